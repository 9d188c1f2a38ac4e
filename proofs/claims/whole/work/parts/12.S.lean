theorem d_S_init_0 : decode b_S_init 0 = .ok (.aload_n 0, 1) := by decide +kernel
theorem d_S_init_1 : decode b_S_init 1 = .ok (.invokespecial 3, 3) := by decide +kernel
theorem d_S_init_4 : decode b_S_init 4 = .ok (.aload_n 0, 1) := by decide +kernel
theorem d_S_init_5 : decode b_S_init 5 = .ok (.lconst 0, 1) := by decide +kernel
theorem d_S_init_6 : decode b_S_init 6 = .ok (.putfield 9, 3) := by decide +kernel
theorem d_S_init_9 : decode b_S_init 9 = .ok (.aload_n 0, 1) := by decide +kernel
theorem d_S_init_10 : decode b_S_init 10 = .ok (.lconst 0, 1) := by decide +kernel
theorem d_S_init_11 : decode b_S_init 11 = .ok (.putfield 15, 3) := by decide +kernel
theorem d_S_init_14 : decode b_S_init 14 = .ok (.aload_n 0, 1) := by decide +kernel
theorem d_S_init_15 : decode b_S_init 15 = .ok (.sipush (-20000), 3) := by decide +kernel
theorem d_S_init_18 : decode b_S_init 18 = .ok (.putfield 18, 3) := by decide +kernel
theorem d_S_init_21 : decode b_S_init 21 = .ok (.return_, 1) := by decide +kernel
set_option maxHeartbeats 4000000 in
set_option maxRecDepth 100000 in
theorem c_S_init (l : Launch) (dC : Nat → ClassId) (dI : Nat → Nat → Nat) (a4 : Nat) (sz : Nat) (hi : Int64) (lo : Int64) (ex : Int32) : Met l y_S_init w_S_init ({ frames := 1, cells := 0, slots := 0, locals := 12 }) (cPc (dC, dI) [] [.ref a4] [(a4, .inr (2, [.long hi, .long lo, .int ex]))] sz) (va_Qv (fun (_ : Unit) => True) (fun _ t => va_P (dC, dI) classes [(a4, .inr (2, [.long 0, .long 0, .int (-20000)]))] t.heap ∧ va_D (va_A [(a4, .inr (2, [.long hi, .long lo, .int ex]))] sz) [(a4, .inr (2, [.long 0, .long 0, .int (-20000)]))]) (va_A [(a4, .inr (2, [.long hi, .long lo, .int ex]))] sz)) 0 0 (va_A [(a4, .inr (2, [.long hi, .long lo, .int ex]))] sz) := by
  refine Met.ofW (cc := b_S_init) (maxL := 1) (ret := none) (by decide) rfl ?_
  intro p e s m args below meth c s₁ B hml hv
  obtain ⟨rfl, hsz, hP, hK, hD0, hnw⟩ := hv
  have hx := B.exec
  have hb := B.bytes
  have hr := B.returns
  have hts := atoms_spec (ws := w_S_init) B.pre
  have htA : ∀ w ∈ wAll, w.before _ s = true := fun w h => hts w (List.mem_cons_of_mem _ h)
  have hown : s.vm.findClass R_S = some m.cls := findClass_of_methodNamed B.named
  have hlocks := B.notSynchronized
  have hin : meth.name = "<init>" := (name_of_methodNamed B.named B.method).1
  subst hsz
  have hD := hD0.self (sz := s.heap.size)
  generalize hAe : va_A [(a4, .inr (2, [.long hi, .long lo, .int ex]))] s.heap.size = A at hD ⊢
  have hA : ∀ q : Nat, s.heap.size ≤ q → A q := fun q h => by rw [← hAe]; exact Or.inr h
  have hS : va_S A s.heap s.heap [] := va_S.rf
  have hP : va_P (dC, dI) classes [(a4, .inr (2, [.long hi, .long lo, .int ex]))] s.heap := hP
  obtain ⟨H, eH⟩ : ∃ z, z = s.heap := ⟨_, rfl⟩
  rw [← eH] at hP
  have hS : va_S A s.heap H [] := by rw [eH]; exact hS
  rw [← eH]
  generalize ([] : List Loc) = locs at hS ⊢
  have hl := lv_entry ([.ref a4]) (n := 1) (Nat.le_of_ble_eq_true rfl)
  rw [lg_entry_eq]
  generalize (lg_sl ([.ref a4]) ++ List.replicate (1 - (lg_sl ([.ref a4])).length) Slot.unset).toArray = ls at hl ⊢
  have hl : lv_has ls 1 [(0, .ref a4)] := hl
  refine lv_aload_n hx hb d_S_init_0 rfl (lv_at hl 0 rfl) ?_
  refine W.objInit hx hb hown (htA _ k_13) (htA _ k_7) (htA _ k_8) rfl (by rw [hml]; exact hl.1) rfl d_S_init_1 (Nat.le_of_ble_eq_true rfl) (Nat.le_of_ble_eq_true rfl) ?_
  refine W.eq (g2 := F0 m 4 ls []) rfl ?_
  refine lv_aload_n hx hb d_S_init_4 rfl (lv_at hl 0 rfl) ?_
  refine lv_lconst (v := 0) hx hb d_S_init_5 (by decide) ?_
  refine va_put (D := (dC, dI)) (ci := 2) (v := .long 0) (ty := .long) (C := R_S) (T := F_S) (N := 3) hx hb htA in_S t_S t_S_ok n_S hown hK hP hD hS 0 rfl rfl 0 (by decide) (htA _ k_14) (fun _ h9 => h9) rfl (by decide +kernel) rfl rfl (Nat.le_of_ble_eq_true rfl) d_S_init_6 (fun H locs hP hD hS => ?_)
  have hP : va_P (dC, dI) classes [(a4, .inr (2, [.long 0, .long lo, .int ex]))] H := hP
  have hD : va_D A [(a4, .inr (2, [.long 0, .long lo, .int ex]))] := hD
  refine lv_aload_n hx hb d_S_init_9 rfl (lv_at hl 0 rfl) ?_
  refine lv_lconst (v := 0) hx hb d_S_init_10 (by decide) ?_
  refine va_put (D := (dC, dI)) (ci := 2) (v := .long 0) (ty := .long) (C := R_S) (T := F_S) (N := 3) hx hb htA in_S t_S t_S_ok n_S hown hK hP hD hS 0 rfl rfl 1 (by decide) (htA _ k_15) (fun _ h9 => h9) rfl (by decide +kernel) rfl rfl (Nat.le_of_ble_eq_true rfl) d_S_init_11 (fun H locs hP hD hS => ?_)
  have hP : va_P (dC, dI) classes [(a4, .inr (2, [.long 0, .long 0, .int ex]))] H := hP
  have hD : va_D A [(a4, .inr (2, [.long 0, .long 0, .int ex]))] := hD
  refine lv_aload_n hx hb d_S_init_14 rfl (lv_at hl 0 rfl) ?_
  refine lv_sipush (v := (-20000)) hx hb d_S_init_15 (by decide) ?_
  refine va_put (D := (dC, dI)) (ci := 2) (v := .int (-20000)) (ty := .int) (C := R_S) (T := F_S) (N := 3) hx hb htA in_S t_S t_S_ok n_S hown hK hP hD hS 0 rfl rfl 2 (by decide) (htA _ k_16) (fun _ h9 => h9) rfl (by decide +kernel) rfl rfl (Nat.le_of_ble_eq_true rfl) d_S_init_18 (fun H locs hP hD hS => ?_)
  have hP : va_P (dC, dI) classes [(a4, .inr (2, [.long 0, .long 0, .int (-20000)]))] H := hP
  have hD : va_D A [(a4, .inr (2, [.long 0, .long 0, .int (-20000)]))] := hD
  have hP9 : va_P (dC, dI) classes [(a4, .inr (2, [.long 0, .long 0, .int (-20000)]))] H := by exact hP.sub [0] rfl
  have hD9 : va_D A [(a4, .inr (2, [.long 0, .long 0, .int (-20000)]))] := by exact hD.sub [0] (by decide) rfl
  exact W.vret hx hb hr (fun t ht hW => ⟨⟨(), rfl, trivial, by rw [ht]; exact hP9, hD9⟩, hS.F ht⟩) hS.2.2 d_S_init_21
