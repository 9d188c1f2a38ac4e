theorem d_R_put_0 : decode b_R_put 0 = .ok (.aload_n 0, 1) := by decide +kernel
theorem d_R_put_1 : decode b_R_put 1 = .ok (.iload_n 1, 1) := by decide +kernel
theorem d_R_put_2 : decode b_R_put 2 = .ok (.putfield 9, 3) := by decide +kernel
theorem d_R_put_5 : decode b_R_put 5 = .ok (.aload_n 0, 1) := by decide +kernel
theorem d_R_put_6 : decode b_R_put 6 = .ok (.iload_n 2, 1) := by decide +kernel
theorem d_R_put_7 : decode b_R_put 7 = .ok (.putfield 15, 3) := by decide +kernel
theorem d_R_put_10 : decode b_R_put 10 = .ok (.aload_n 0, 1) := by decide +kernel
theorem d_R_put_11 : decode b_R_put 11 = .ok (.lload_n 3, 1) := by decide +kernel
theorem d_R_put_12 : decode b_R_put 12 = .ok (.putfield 19, 3) := by decide +kernel
theorem d_R_put_15 : decode b_R_put 15 = .ok (.return_, 1) := by decide +kernel
set_option maxHeartbeats 4000000 in
set_option maxRecDepth 100000 in
theorem c_R_put (l : Launch) (dC : Nat → ClassId) (dI : Nat → Nat → Nat) (a1 : Nat) (sz : Nat) (n1 : Bool) (p1 : Int32) (f1 : Int64) (bn : Bool) (ip : Int32) (jf : Int64) : Met l y_R_put w_R_put ({ frames := 0, cells := 0, slots := 0, locals := 0 }) (cPc (dC, dI) [] [.ref a1, .int (b2i bn), .int ip, .long jf] [(a1, .inr (1, [.int (b2i n1), .int p1, .long f1]))] sz) (va_Qv (fun (_ : Unit) => True) (fun _ t => va_P (dC, dI) classes [(a1, .inr (1, [.int (b2i bn), .int ip, .long jf]))] t.heap ∧ va_D (va_A [(a1, .inr (1, [.int (b2i n1), .int p1, .long f1]))] sz) [(a1, .inr (1, [.int (b2i bn), .int ip, .long jf]))]) (va_A [(a1, .inr (1, [.int (b2i n1), .int p1, .long f1]))] sz)) 0 0 (va_A [(a1, .inr (1, [.int (b2i n1), .int p1, .long f1]))] sz) := by
  refine Met.ofW (cc := b_R_put) (maxL := 5) (ret := none) (by decide) rfl ?_
  intro p e s m args below meth c s₁ B hml hv
  obtain ⟨rfl, hsz, hP, hK, hD0, hnw⟩ := hv
  have hx := B.exec
  have hb := B.bytes
  have hr := B.returns
  have hts := atoms_spec (ws := w_R_put) B.pre
  have htA : ∀ w ∈ wAll, w.before _ s = true := fun w h => hts w (List.mem_cons_of_mem _ h)
  have hown : s.vm.findClass R_R = some m.cls := findClass_of_methodNamed B.named
  have hlocks := B.notSynchronized
  subst hsz
  have hD := hD0.self (sz := s.heap.size)
  generalize hAe : va_A [(a1, .inr (1, [.int (b2i n1), .int p1, .long f1]))] s.heap.size = A at hD ⊢
  have hA : ∀ q : Nat, s.heap.size ≤ q → A q := fun q h => by rw [← hAe]; exact Or.inr h
  have hS : va_S A s.heap s.heap [] := va_S.rf
  have hP : va_P (dC, dI) classes [(a1, .inr (1, [.int (b2i n1), .int p1, .long f1]))] s.heap := hP
  obtain ⟨H, eH⟩ : ∃ z, z = s.heap := ⟨_, rfl⟩
  rw [← eH] at hP
  have hS : va_S A s.heap H [] := by rw [eH]; exact hS
  rw [← eH]
  generalize ([] : List Loc) = locs at hS ⊢
  have hl := lv_entry ([.ref a1, .int (b2i bn), .int ip, .long jf]) (n := 5) (Nat.le_of_ble_eq_true rfl)
  rw [lg_entry_eq]
  generalize (lg_sl ([.ref a1, .int (b2i bn), .int ip, .long jf]) ++ List.replicate (5 - (lg_sl ([.ref a1, .int (b2i bn), .int ip, .long jf])).length) Slot.unset).toArray = ls at hl ⊢
  have hl : lv_has ls 5 [(0, .ref a1), (1, .int (b2i bn)), (2, .int ip), (3, .long jf)] := hl
  refine lv_aload_n hx hb d_R_put_0 rfl (lv_at hl 0 rfl) ?_
  refine lv_iload_n hx hb d_R_put_1 rfl (lv_at hl 1 rfl) ?_
  refine va_put (D := (dC, dI)) (ci := 1) (v := .int (b2i bn)) (ty := .boolean) (C := R_R) (T := F_R) (N := 3) hx hb htA in_R t_R t_R_ok n_R hown hK hP hD hS 0 rfl rfl 0 (by decide) (htA _ k_9) (fun _ h9 => h9) rfl (by decide +kernel) (by first | exact nar_b2i _ | rfl) (by first | exact fit_b2i _ | rfl) (Nat.le_of_ble_eq_true rfl) d_R_put_2 (fun H locs hP hD hS => ?_)
  have hP : va_P (dC, dI) classes [(a1, .inr (1, [.int (b2i bn), .int p1, .long f1]))] H := hP
  have hD : va_D A [(a1, .inr (1, [.int (b2i bn), .int p1, .long f1]))] := hD
  refine lv_aload_n hx hb d_R_put_5 rfl (lv_at hl 0 rfl) ?_
  refine lv_iload_n hx hb d_R_put_6 rfl (lv_at hl 2 rfl) ?_
  refine va_put (D := (dC, dI)) (ci := 1) (v := .int ip) (ty := .int) (C := R_R) (T := F_R) (N := 3) hx hb htA in_R t_R t_R_ok n_R hown hK hP hD hS 0 rfl rfl 1 (by decide) (htA _ k_10) (fun _ h9 => h9) rfl (by decide +kernel) rfl rfl (Nat.le_of_ble_eq_true rfl) d_R_put_7 (fun H locs hP hD hS => ?_)
  have hP : va_P (dC, dI) classes [(a1, .inr (1, [.int (b2i bn), .int ip, .long f1]))] H := hP
  have hD : va_D A [(a1, .inr (1, [.int (b2i bn), .int ip, .long f1]))] := hD
  refine lv_aload_n hx hb d_R_put_10 rfl (lv_at hl 0 rfl) ?_
  refine lv_lload_n hx hb d_R_put_11 rfl (lv_at hl 3 rfl) ?_
  refine va_put (D := (dC, dI)) (ci := 1) (v := .long jf) (ty := .long) (C := R_R) (T := F_R) (N := 3) hx hb htA in_R t_R t_R_ok n_R hown hK hP hD hS 0 rfl rfl 2 (by decide) (htA _ k_11) (fun _ h9 => h9) rfl (by decide +kernel) rfl rfl (Nat.le_of_ble_eq_true rfl) d_R_put_12 (fun H locs hP hD hS => ?_)
  have hP : va_P (dC, dI) classes [(a1, .inr (1, [.int (b2i bn), .int ip, .long jf]))] H := hP
  have hD : va_D A [(a1, .inr (1, [.int (b2i bn), .int ip, .long jf]))] := hD
  have hP9 : va_P (dC, dI) classes [(a1, .inr (1, [.int (b2i bn), .int ip, .long jf]))] H := by exact hP.sub [0] rfl
  have hD9 : va_D A [(a1, .inr (1, [.int (b2i bn), .int ip, .long jf]))] := by exact hD.sub [0] (by decide) rfl
  exact W.vret hx hb hr (fun t ht hW => ⟨⟨(), rfl, trivial, by rw [ht]; exact hP9, hD9⟩, hS.F ht⟩) hS.2.2 d_R_put_15
theorem d_R_take_0 : decode b_R_take 0 = .ok (.aload_n 0, 1) := by decide +kernel
theorem d_R_take_1 : decode b_R_take 1 = .ok (.iload_n 1, 1) := by decide +kernel
theorem d_R_take_2 : decode b_R_take 2 = .ok (.ldc 23, 2) := by decide +kernel
theorem d_R_take_4 : decode b_R_take 4 = .ok (.iand, 1) := by decide +kernel
theorem d_R_take_5 : decode b_R_take 5 = .ok (.ifCond .eq 7, 3) := by decide +kernel
theorem d_R_take_12 : decode b_R_take 12 = .ok (.iconst 0, 1) := by decide +kernel
theorem d_R_take_8 : decode b_R_take 8 = .ok (.iconst 1, 1) := by decide +kernel
theorem d_R_take_9 : decode b_R_take 9 = .ok (.goto 4, 3) := by decide +kernel
theorem d_R_take_13 : decode b_R_take 13 = .ok (.iload_n 1, 1) := by decide +kernel
theorem d_R_take_14 : decode b_R_take 14 = .ok (.sipush 32767, 3) := by decide +kernel
theorem d_R_take_17 : decode b_R_take 17 = .ok (.iand, 1) := by decide +kernel
theorem d_R_take_18 : decode b_R_take 18 = .ok (.lload_n 2, 1) := by decide +kernel
theorem d_R_take_19 : decode b_R_take 19 = .ok (.invokevirtual 24, 3) := by decide +kernel
theorem d_R_take_22 : decode b_R_take 22 = .ok (.return_, 1) := by decide +kernel
set_option maxHeartbeats 4000000 in
set_option maxRecDepth 100000 in
theorem c_R_take (l : Launch) (dC : Nat → ClassId) (dI : Nat → Nat → Nat) (a1 : Nat) (sz : Nat) (n1 : Bool) (p1 : Int32) (f1 : Int64) (it : Int32) (jf : Int64) : Met l y_R_take w_R_take ({ frames := 1, cells := 0, slots := 0, locals := 24 }) (cPc (dC, dI) [] [.ref a1, .int it, .long jf] [(a1, .inr (1, [.int (b2i n1), .int p1, .long f1]))] sz) (va_Qv (fun (_ : Unit) => True) (fun _ t => va_P (dC, dI) classes [(a1, .inr (1, [.int (b2i ((g_R_take it).1)), .int ((g_R_take it).2), .long jf]))] t.heap ∧ va_D (va_A [(a1, .inr (1, [.int (b2i n1), .int p1, .long f1]))] sz) [(a1, .inr (1, [.int (b2i ((g_R_take it).1)), .int ((g_R_take it).2), .long jf]))]) (va_A [(a1, .inr (1, [.int (b2i n1), .int p1, .long f1]))] sz)) 0 0 (va_A [(a1, .inr (1, [.int (b2i n1), .int p1, .long f1]))] sz) := by
  refine Met.ofW (cc := b_R_take) (maxL := 4) (ret := none) (by decide) rfl ?_
  intro p e s m args below meth c s₁ B hml hv
  obtain ⟨rfl, hsz, hP, hK, hD0, hnw⟩ := hv
  have hx := B.exec
  have hb := B.bytes
  have hr := B.returns
  have hts := atoms_spec (ws := w_R_take) B.pre
  have htA : ∀ w ∈ wAll, w.before _ s = true := fun w h => hts w (List.mem_cons_of_mem _ h)
  have hown : s.vm.findClass R_R = some m.cls := findClass_of_methodNamed B.named
  have hlocks := B.notSynchronized
  subst hsz
  have hD := hD0.self (sz := s.heap.size)
  generalize hAe : va_A [(a1, .inr (1, [.int (b2i n1), .int p1, .long f1]))] s.heap.size = A at hD ⊢
  have hA : ∀ q : Nat, s.heap.size ≤ q → A q := fun q h => by rw [← hAe]; exact Or.inr h
  have hS : va_S A s.heap s.heap [] := va_S.rf
  have hP : va_P (dC, dI) classes [(a1, .inr (1, [.int (b2i n1), .int p1, .long f1]))] s.heap := hP
  obtain ⟨H, eH⟩ : ∃ z, z = s.heap := ⟨_, rfl⟩
  rw [← eH] at hP
  have hS : va_S A s.heap H [] := by rw [eH]; exact hS
  rw [← eH]
  generalize ([] : List Loc) = locs at hS ⊢
  have hl := lv_entry ([.ref a1, .int it, .long jf]) (n := 4) (Nat.le_of_ble_eq_true rfl)
  rw [lg_entry_eq]
  generalize (lg_sl ([.ref a1, .int it, .long jf]) ++ List.replicate (4 - (lg_sl ([.ref a1, .int it, .long jf])).length) Slot.unset).toArray = ls at hl ⊢
  have hl : lv_has ls 4 [(0, .ref a1), (1, .int it), (2, .long jf)] := hl
  refine lv_aload_n hx hb d_R_take_0 rfl (lv_at hl 0 rfl) ?_
  refine lv_iload_n hx hb d_R_take_1 rfl (lv_at hl 1 rfl) ?_
  refine lv_ldc (v := 32768) hx hb hown (htA _ k_19) d_R_take_2 ?_
  refine lv_iand hx hb d_R_take_4 ?_
  refine cut_join (X := Bool) 0 0 (fun (x : Bool) (H : Heap) (locs : List Loc) (ls : Array Slot) => (if (it &&& 32768) = 0 then false else true) = x ∧ va_P (dC, dI) classes [(a1, .inr (1, [.int (b2i n1), .int p1, .long f1]))] H ∧ va_D A [(a1, .inr (1, [.int (b2i n1), .int p1, .long f1]))] ∧ va_S A s.heap H locs ∧ lv_has ls 4 [(0, .ref a1), (1, .int it), (2, .long jf)]) (fun x ls => F0 m 13 ls [.int (b2i x), .ref a1]) ?_ (fun J13 => ?_)
  · skip
    rintro j13_0 H locs ls ⟨ej13_0, hP, hD, hS, hl⟩
    have ej13_0 : (if (it &&& 32768) = 0 then false else true) = j13_0 := ej13_0
    have hP : va_P (dC, dI) classes [(a1, .inr (1, [.int (b2i n1), .int p1, .long f1]))] H := hP
    have hD : va_D A [(a1, .inr (1, [.int (b2i n1), .int p1, .long f1]))] := hD
    have hl : lv_has ls 4 [(0, .ref a1), (1, .int it), (2, .long jf)] := hl
    refine lv_iload_n hx hb d_R_take_13 rfl (lv_at hl 1 rfl) ?_
    refine lv_sipush (v := 32767) hx hb d_R_take_14 (by decide) ?_
    refine lv_iand hx hb d_R_take_17 ?_
    refine lv_lload_n hx hb d_R_take_18 rfl (lv_at hl 2 rfl) ?_
    have hPc := hP.sub (ws' := [(a1, .inr (1, [.int (b2i n1), .int p1, .long f1]))]) [0] rfl
    have hDc := hD.sub (ws' := [(a1, .inr (1, [.int (b2i n1), .int p1, .long f1]))]) [0] (by decide) rfl
    have hKc := hK.sub (tys' := []) [] rfl
    have hFc := va_free (wc := [(a1, .inr (1, [.int (b2i n1), .int p1, .long f1]))]) hD hS hA [0] rfl
    refine cc_v (va_runV (As := [.int (b2i j13_0), .int (it &&& 32767), .long jf]) (rest := []) ⟨hx, hb, hml, hown, htA⟩ (c_R_put l dC dI a1 H.size n1 p1 f1 j13_0 (it &&& 32767) jf) (cwV 3 htA (gi_V k_21 k_22 k_23 k_20 (gi_code k_18)) rfl rfl rfl (by decide +kernel) ⟨Nat.le_of_ble_eq_true rfl, Nat.le_of_ble_eq_true rfl⟩) (pre_V hnw hPc hKc hDc (ci := 1) (q0 := 0) rfl rfl) rfl rfl hl.1 rfl (lv_room (Nat.le_of_ble_eq_true rfl)) d_R_take_19 ⟨Nat.le_of_ble_eq_true rfl, Nat.le_of_ble_eq_true rfl⟩) hS hFc hP hD [0] [] (wr := []) rfl rfl (by decide) (by decide) (fun H locs hP hD hS => ?_)
    have hP : va_P (dC, dI) classes [(a1, .inr (1, [.int (b2i j13_0), .int (it &&& 32767), .long jf]))] H := hP
    have hD : va_D A [(a1, .inr (1, [.int (b2i j13_0), .int (it &&& 32767), .long jf]))] := hD
    have hE : g_R_take it = (j13_0, (it &&& 32767)) := by clear hP hD hl hS; subst ej13_0; unfold g_R_take; rfl
    have hP9 : va_P (dC, dI) classes [(a1, .inr (1, [.int (b2i ((g_R_take it).1)), .int ((g_R_take it).2), .long jf]))] H := by rw [hE]; exact hP.sub [0] rfl
    have hD9 : va_D A [(a1, .inr (1, [.int (b2i ((g_R_take it).1)), .int ((g_R_take it).2), .long jf]))] := by rw [hE]; exact hD.sub [0] (by decide) rfl
    exact W.vret hx hb hr (fun t ht hW => ⟨⟨(), rfl, trivial, by rw [ht]; exact hP9, hD9⟩, hS.F ht⟩) hS.2.2 d_R_take_22
  · skip
    refine lv_if_eq (tgt := 12) hx hb d_R_take_5 (by decide) (fun c_5 => ?_) (fun c_5 => ?_)
    · skip
      refine lv_iconst (v := 0) hx hb d_R_take_12 (by decide) ?_
      exact J13 (false) H locs ls ⟨by clear hP hD hl hS; (try dsimp only); rw [if_pos c_5], hP.sub [0] rfl, hD.sub [0] (by decide) rfl, hS, lv_sub hl [0, 1, 2] rfl⟩
    · skip
      refine lv_iconst (v := 1) hx hb d_R_take_8 (by decide) ?_
      refine lv_goto (tgt := 13) hx hb d_R_take_9 (by decide) ?_
      exact J13 (true) H locs ls ⟨by clear hP hD hl hS; (try dsimp only); rw [if_neg c_5], hP.sub [0] rfl, hD.sub [0] (by decide) rfl, hS, lv_sub hl [0, 1, 2] rfl⟩
theorem d_R_isDenormal_0 : decode b_R_isDenormal 0 = .ok (.aload_n 0, 1) := by decide +kernel
theorem d_R_isDenormal_1 : decode b_R_isDenormal 1 = .ok (.getfield 15, 3) := by decide +kernel
theorem d_R_isDenormal_4 : decode b_R_isDenormal 4 = .ok (.ifCond .ne 16, 3) := by decide +kernel
theorem d_R_isDenormal_20 : decode b_R_isDenormal 20 = .ok (.iconst 0, 1) := by decide +kernel
theorem d_R_isDenormal_21 : decode b_R_isDenormal 21 = .ok (.ireturn, 1) := by decide +kernel
theorem d_R_isDenormal_7 : decode b_R_isDenormal 7 = .ok (.aload_n 0, 1) := by decide +kernel
theorem d_R_isDenormal_8 : decode b_R_isDenormal 8 = .ok (.getfield 19, 3) := by decide +kernel
theorem d_R_isDenormal_11 : decode b_R_isDenormal 11 = .ok (.lconst 0, 1) := by decide +kernel
theorem d_R_isDenormal_12 : decode b_R_isDenormal 12 = .ok (.lcmp, 1) := by decide +kernel
theorem d_R_isDenormal_13 : decode b_R_isDenormal 13 = .ok (.ifCond .eq 7, 3) := by decide +kernel
theorem d_R_isDenormal_16 : decode b_R_isDenormal 16 = .ok (.iconst 1, 1) := by decide +kernel
theorem d_R_isDenormal_17 : decode b_R_isDenormal 17 = .ok (.goto 4, 3) := by decide +kernel
set_option maxHeartbeats 4000000 in
set_option maxRecDepth 100000 in
theorem c_R_isDenormal (l : Launch) (dC : Nat → ClassId) (dI : Nat → Nat → Nat) (a1 : Nat) (sz : Nat) (n1 : Bool) (p1 : Int32) (f1 : Int64) : Met l y_R_isDenormal w_R_isDenormal ({ frames := 0, cells := 0, slots := 0, locals := 0 }) (cPc (dC, dI) [] [.ref a1] [(a1, .inr (1, [.int (b2i n1), .int p1, .long f1]))] sz) (va_Qi (fun (r : Int32) (_ : Unit) => r = b2i ((g_R_isDenormal p1 f1))) (fun _ t => va_P (dC, dI) classes [(a1, .inr (1, [.int (b2i n1), .int p1, .long f1]))] t.heap ∧ va_D (va_A [(a1, .inr (1, [.int (b2i n1), .int p1, .long f1]))] sz) [(a1, .inr (1, [.int (b2i n1), .int p1, .long f1]))]) (va_A [(a1, .inr (1, [.int (b2i n1), .int p1, .long f1]))] sz)) 0 0 (va_A [(a1, .inr (1, [.int (b2i n1), .int p1, .long f1]))] sz) := by
  refine Met.ofW (cc := b_R_isDenormal) (maxL := 1) (ret := (some .boolean)) (by decide) rfl ?_
  intro p e s m args below meth c s₁ B hml hv
  obtain ⟨rfl, hsz, hP, hK, hD0, hnw⟩ := hv
  have hx := B.exec
  have hb := B.bytes
  have hr := B.returns
  have hts := atoms_spec (ws := w_R_isDenormal) B.pre
  have htA : ∀ w ∈ wAll, w.before _ s = true := fun w h => hts w (List.mem_cons_of_mem _ h)
  have hown : s.vm.findClass R_R = some m.cls := findClass_of_methodNamed B.named
  have hlocks := B.notSynchronized
  subst hsz
  have hD := hD0.self (sz := s.heap.size)
  generalize hAe : va_A [(a1, .inr (1, [.int (b2i n1), .int p1, .long f1]))] s.heap.size = A at hD ⊢
  have hA : ∀ q : Nat, s.heap.size ≤ q → A q := fun q h => by rw [← hAe]; exact Or.inr h
  have hS : va_S A s.heap s.heap [] := va_S.rf
  have hP : va_P (dC, dI) classes [(a1, .inr (1, [.int (b2i n1), .int p1, .long f1]))] s.heap := hP
  obtain ⟨H, eH⟩ : ∃ z, z = s.heap := ⟨_, rfl⟩
  rw [← eH] at hP
  have hS : va_S A s.heap H [] := by rw [eH]; exact hS
  rw [← eH]
  generalize ([] : List Loc) = locs at hS ⊢
  have hl := lv_entry ([.ref a1]) (n := 1) (Nat.le_of_ble_eq_true rfl)
  rw [lg_entry_eq]
  generalize (lg_sl ([.ref a1]) ++ List.replicate (1 - (lg_sl ([.ref a1])).length) Slot.unset).toArray = ls at hl ⊢
  have hl : lv_has ls 1 [(0, .ref a1)] := hl
  refine lv_aload_n hx hb d_R_isDenormal_0 rfl (lv_at hl 0 rfl) ?_
  refine va_get (D := (dC, dI)) (ci := 1) (v := .int p1) (C := R_R) (T := F_R) (N := 3) hx hb htA in_R hown hK hP 0 rfl rfl 1 (by decide) (htA _ k_10) (fun _ h9 => h9) rfl d_R_isDenormal_1 ?_
  refine lv_if_ne (tgt := 20) hx hb d_R_isDenormal_4 (by decide) (fun c_4 => ?_) (fun c_4 => ?_)
  · skip
    refine lv_iconst (v := 0) hx hb d_R_isDenormal_20 (by decide) ?_
    have hE : g_R_isDenormal p1 f1 = (false) := by clear hP hD hl hS; unfold g_R_isDenormal; (try dsimp only); rw [if_neg c_4]
    have hP9 : va_P (dC, dI) classes [(a1, .inr (1, [.int (b2i n1), .int p1, .long f1]))] H := by exact hP.sub [0] rfl
    have hD9 : va_D A [(a1, .inr (1, [.int (b2i n1), .int p1, .long f1]))] := by exact hD.sub [0] (by decide) rfl
    exact W.zret (v := 0) hx hb hr (by first | exact nar_b2i _ | rfl) (fun t ht hW => ⟨⟨0, (), rfl, by rw [hE]; rfl, by rw [ht]; exact hP9, hD9⟩, hS.F ht⟩) hS.2.2 d_R_isDenormal_21
  · skip
    refine lv_aload_n hx hb d_R_isDenormal_7 rfl (lv_at hl 0 rfl) ?_
    refine va_get (D := (dC, dI)) (ci := 1) (v := .long f1) (C := R_R) (T := F_R) (N := 3) hx hb htA in_R hown hK hP 0 rfl rfl 2 (by decide) (htA _ k_11) (fun _ h9 => h9) rfl d_R_isDenormal_8 ?_
    refine lv_lconst (v := 0) hx hb d_R_isDenormal_11 (by decide) ?_
    refine W.lcmp hx hb d_R_isDenormal_12 ?_
    refine lv_if_eq (tgt := 20) hx hb d_R_isDenormal_13 (by decide) (fun c_13 => ?_) (fun c_13 => ?_)
    · skip
      have c_13 : f1 = 0 := (lg_cmp_eq _ _).mp c_13
      refine lv_iconst (v := 0) hx hb d_R_isDenormal_20 (by decide) ?_
      have hE : g_R_isDenormal p1 f1 = (false) := by clear hP hD hl hS; unfold g_R_isDenormal; (try dsimp only); rw [if_pos c_4, if_pos c_13]
      have hP9 : va_P (dC, dI) classes [(a1, .inr (1, [.int (b2i n1), .int p1, .long f1]))] H := by exact hP.sub [0] rfl
      have hD9 : va_D A [(a1, .inr (1, [.int (b2i n1), .int p1, .long f1]))] := by exact hD.sub [0] (by decide) rfl
      exact W.zret (v := 0) hx hb hr (by first | exact nar_b2i _ | rfl) (fun t ht hW => ⟨⟨0, (), rfl, by rw [hE]; rfl, by rw [ht]; exact hP9, hD9⟩, hS.F ht⟩) hS.2.2 d_R_isDenormal_21
    · skip
      have c_13 : ¬ f1 = 0 := fun h9 => c_13 ((lg_cmp_eq _ _).mpr h9)
      refine lv_iconst (v := 1) hx hb d_R_isDenormal_16 (by decide) ?_
      refine lv_goto (tgt := 21) hx hb d_R_isDenormal_17 (by decide) ?_
      have hE : g_R_isDenormal p1 f1 = (true) := by clear hP hD hl hS; unfold g_R_isDenormal; (try dsimp only); rw [if_pos c_4, if_neg c_13]
      have hP9 : va_P (dC, dI) classes [(a1, .inr (1, [.int (b2i n1), .int p1, .long f1]))] H := by exact hP.sub [0] rfl
      have hD9 : va_D A [(a1, .inr (1, [.int (b2i n1), .int p1, .long f1]))] := by exact hD.sub [0] (by decide) rfl
      exact W.zret (v := 1) hx hb hr (by first | exact nar_b2i _ | rfl) (fun t ht hW => ⟨⟨1, (), rfl, by rw [hE]; rfl, by rw [ht]; exact hP9, hD9⟩, hS.F ht⟩) hS.2.2 d_R_isDenormal_21
theorem d_R_isUnnormalOfSize_0 : decode b_R_isUnnormalOfSize 0 = .ok (.aload_n 0, 1) := by decide +kernel
theorem d_R_isUnnormalOfSize_1 : decode b_R_isUnnormalOfSize 1 = .ok (.getfield 15, 3) := by decide +kernel
theorem d_R_isUnnormalOfSize_4 : decode b_R_isUnnormalOfSize 4 = .ok (.iconst 1, 1) := by decide +kernel
theorem d_R_isUnnormalOfSize_5 : decode b_R_isUnnormalOfSize 5 = .ok (.if_icmp .lt 26, 3) := by decide +kernel
theorem d_R_isUnnormalOfSize_31 : decode b_R_isUnnormalOfSize 31 = .ok (.iconst 0, 1) := by decide +kernel
theorem d_R_isUnnormalOfSize_32 : decode b_R_isUnnormalOfSize 32 = .ok (.ireturn, 1) := by decide +kernel
theorem d_R_isUnnormalOfSize_8 : decode b_R_isUnnormalOfSize 8 = .ok (.aload_n 0, 1) := by decide +kernel
theorem d_R_isUnnormalOfSize_9 : decode b_R_isUnnormalOfSize 9 = .ok (.getfield 15, 3) := by decide +kernel
theorem d_R_isUnnormalOfSize_12 : decode b_R_isUnnormalOfSize 12 = .ok (.sipush 32766, 3) := by decide +kernel
theorem d_R_isUnnormalOfSize_15 : decode b_R_isUnnormalOfSize 15 = .ok (.if_icmp .gt 16, 3) := by decide +kernel
theorem d_R_isUnnormalOfSize_18 : decode b_R_isUnnormalOfSize 18 = .ok (.aload_n 0, 1) := by decide +kernel
theorem d_R_isUnnormalOfSize_19 : decode b_R_isUnnormalOfSize 19 = .ok (.getfield 19, 3) := by decide +kernel
theorem d_R_isUnnormalOfSize_22 : decode b_R_isUnnormalOfSize 22 = .ok (.lconst 0, 1) := by decide +kernel
theorem d_R_isUnnormalOfSize_23 : decode b_R_isUnnormalOfSize 23 = .ok (.lcmp, 1) := by decide +kernel
theorem d_R_isUnnormalOfSize_24 : decode b_R_isUnnormalOfSize 24 = .ok (.ifCond .le 7, 3) := by decide +kernel
theorem d_R_isUnnormalOfSize_27 : decode b_R_isUnnormalOfSize 27 = .ok (.iconst 1, 1) := by decide +kernel
theorem d_R_isUnnormalOfSize_28 : decode b_R_isUnnormalOfSize 28 = .ok (.goto 4, 3) := by decide +kernel
set_option maxHeartbeats 4000000 in
set_option maxRecDepth 100000 in
theorem c_R_isUnnormalOfSize (l : Launch) (dC : Nat → ClassId) (dI : Nat → Nat → Nat) (a1 : Nat) (sz : Nat) (n1 : Bool) (p1 : Int32) (f1 : Int64) : Met l y_R_isUnnormalOfSize w_R_isUnnormalOfSize ({ frames := 0, cells := 0, slots := 0, locals := 0 }) (cPc (dC, dI) [] [.ref a1] [(a1, .inr (1, [.int (b2i n1), .int p1, .long f1]))] sz) (va_Qi (fun (r : Int32) (_ : Unit) => r = b2i ((g_R_isUnnormalOfSize p1 f1))) (fun _ t => va_P (dC, dI) classes [(a1, .inr (1, [.int (b2i n1), .int p1, .long f1]))] t.heap ∧ va_D (va_A [(a1, .inr (1, [.int (b2i n1), .int p1, .long f1]))] sz) [(a1, .inr (1, [.int (b2i n1), .int p1, .long f1]))]) (va_A [(a1, .inr (1, [.int (b2i n1), .int p1, .long f1]))] sz)) 0 0 (va_A [(a1, .inr (1, [.int (b2i n1), .int p1, .long f1]))] sz) := by
  refine Met.ofW (cc := b_R_isUnnormalOfSize) (maxL := 1) (ret := (some .boolean)) (by decide) rfl ?_
  intro p e s m args below meth c s₁ B hml hv
  obtain ⟨rfl, hsz, hP, hK, hD0, hnw⟩ := hv
  have hx := B.exec
  have hb := B.bytes
  have hr := B.returns
  have hts := atoms_spec (ws := w_R_isUnnormalOfSize) B.pre
  have htA : ∀ w ∈ wAll, w.before _ s = true := fun w h => hts w (List.mem_cons_of_mem _ h)
  have hown : s.vm.findClass R_R = some m.cls := findClass_of_methodNamed B.named
  have hlocks := B.notSynchronized
  subst hsz
  have hD := hD0.self (sz := s.heap.size)
  generalize hAe : va_A [(a1, .inr (1, [.int (b2i n1), .int p1, .long f1]))] s.heap.size = A at hD ⊢
  have hA : ∀ q : Nat, s.heap.size ≤ q → A q := fun q h => by rw [← hAe]; exact Or.inr h
  have hS : va_S A s.heap s.heap [] := va_S.rf
  have hP : va_P (dC, dI) classes [(a1, .inr (1, [.int (b2i n1), .int p1, .long f1]))] s.heap := hP
  obtain ⟨H, eH⟩ : ∃ z, z = s.heap := ⟨_, rfl⟩
  rw [← eH] at hP
  have hS : va_S A s.heap H [] := by rw [eH]; exact hS
  rw [← eH]
  generalize ([] : List Loc) = locs at hS ⊢
  have hl := lv_entry ([.ref a1]) (n := 1) (Nat.le_of_ble_eq_true rfl)
  rw [lg_entry_eq]
  generalize (lg_sl ([.ref a1]) ++ List.replicate (1 - (lg_sl ([.ref a1])).length) Slot.unset).toArray = ls at hl ⊢
  have hl : lv_has ls 1 [(0, .ref a1)] := hl
  refine lv_aload_n hx hb d_R_isUnnormalOfSize_0 rfl (lv_at hl 0 rfl) ?_
  refine va_get (D := (dC, dI)) (ci := 1) (v := .int p1) (C := R_R) (T := F_R) (N := 3) hx hb htA in_R hown hK hP 0 rfl rfl 1 (by decide) (htA _ k_10) (fun _ h9 => h9) rfl d_R_isUnnormalOfSize_1 ?_
  refine lv_iconst (v := 1) hx hb d_R_isUnnormalOfSize_4 (by decide) ?_
  refine lv_icmp_lt (tgt := 31) hx hb d_R_isUnnormalOfSize_5 (by decide) (fun c_5 => ?_) (fun c_5 => ?_)
  · skip
    refine lv_iconst (v := 0) hx hb d_R_isUnnormalOfSize_31 (by decide) ?_
    have hE : g_R_isUnnormalOfSize p1 f1 = (false) := by clear hP hD hl hS; unfold g_R_isUnnormalOfSize; (try dsimp only); rw [if_pos c_5]
    have hP9 : va_P (dC, dI) classes [(a1, .inr (1, [.int (b2i n1), .int p1, .long f1]))] H := by exact hP.sub [0] rfl
    have hD9 : va_D A [(a1, .inr (1, [.int (b2i n1), .int p1, .long f1]))] := by exact hD.sub [0] (by decide) rfl
    exact W.zret (v := 0) hx hb hr (by first | exact nar_b2i _ | rfl) (fun t ht hW => ⟨⟨0, (), rfl, by rw [hE]; rfl, by rw [ht]; exact hP9, hD9⟩, hS.F ht⟩) hS.2.2 d_R_isUnnormalOfSize_32
  · skip
    refine lv_aload_n hx hb d_R_isUnnormalOfSize_8 rfl (lv_at hl 0 rfl) ?_
    refine va_get (D := (dC, dI)) (ci := 1) (v := .int p1) (C := R_R) (T := F_R) (N := 3) hx hb htA in_R hown hK hP 0 rfl rfl 1 (by decide) (htA _ k_10) (fun _ h9 => h9) rfl d_R_isUnnormalOfSize_9 ?_
    refine lv_sipush (v := 32766) hx hb d_R_isUnnormalOfSize_12 (by decide) ?_
    refine lv_icmp_gt (tgt := 31) hx hb d_R_isUnnormalOfSize_15 (by decide) (fun c_15 => ?_) (fun c_15 => ?_)
    · skip
      refine lv_iconst (v := 0) hx hb d_R_isUnnormalOfSize_31 (by decide) ?_
      have hE : g_R_isUnnormalOfSize p1 f1 = (false) := by clear hP hD hl hS; unfold g_R_isUnnormalOfSize; (try dsimp only); rw [if_neg c_5, if_pos c_15]
      have hP9 : va_P (dC, dI) classes [(a1, .inr (1, [.int (b2i n1), .int p1, .long f1]))] H := by exact hP.sub [0] rfl
      have hD9 : va_D A [(a1, .inr (1, [.int (b2i n1), .int p1, .long f1]))] := by exact hD.sub [0] (by decide) rfl
      exact W.zret (v := 0) hx hb hr (by first | exact nar_b2i _ | rfl) (fun t ht hW => ⟨⟨0, (), rfl, by rw [hE]; rfl, by rw [ht]; exact hP9, hD9⟩, hS.F ht⟩) hS.2.2 d_R_isUnnormalOfSize_32
    · skip
      refine lv_aload_n hx hb d_R_isUnnormalOfSize_18 rfl (lv_at hl 0 rfl) ?_
      refine va_get (D := (dC, dI)) (ci := 1) (v := .long f1) (C := R_R) (T := F_R) (N := 3) hx hb htA in_R hown hK hP 0 rfl rfl 2 (by decide) (htA _ k_11) (fun _ h9 => h9) rfl d_R_isUnnormalOfSize_19 ?_
      refine lv_lconst (v := 0) hx hb d_R_isUnnormalOfSize_22 (by decide) ?_
      refine W.lcmp hx hb d_R_isUnnormalOfSize_23 ?_
      refine lv_if_le (tgt := 31) hx hb d_R_isUnnormalOfSize_24 (by decide) (fun c_24 => ?_) (fun c_24 => ?_)
      · skip
        have c_24 : f1 ≤ 0 := (lg_cmp_le _ _).mp c_24
        refine lv_iconst (v := 0) hx hb d_R_isUnnormalOfSize_31 (by decide) ?_
        have hE : g_R_isUnnormalOfSize p1 f1 = (false) := by clear hP hD hl hS; unfold g_R_isUnnormalOfSize; (try dsimp only); rw [if_neg c_5, if_neg c_15, if_pos c_24]
        have hP9 : va_P (dC, dI) classes [(a1, .inr (1, [.int (b2i n1), .int p1, .long f1]))] H := by exact hP.sub [0] rfl
        have hD9 : va_D A [(a1, .inr (1, [.int (b2i n1), .int p1, .long f1]))] := by exact hD.sub [0] (by decide) rfl
        exact W.zret (v := 0) hx hb hr (by first | exact nar_b2i _ | rfl) (fun t ht hW => ⟨⟨0, (), rfl, by rw [hE]; rfl, by rw [ht]; exact hP9, hD9⟩, hS.F ht⟩) hS.2.2 d_R_isUnnormalOfSize_32
      · skip
        have c_24 : ¬ f1 ≤ 0 := fun h9 => c_24 ((lg_cmp_le _ _).mpr h9)
        refine lv_iconst (v := 1) hx hb d_R_isUnnormalOfSize_27 (by decide) ?_
        refine lv_goto (tgt := 32) hx hb d_R_isUnnormalOfSize_28 (by decide) ?_
        have hE : g_R_isUnnormalOfSize p1 f1 = (true) := by clear hP hD hl hS; unfold g_R_isUnnormalOfSize; (try dsimp only); rw [if_neg c_5, if_neg c_15, if_neg c_24]
        have hP9 : va_P (dC, dI) classes [(a1, .inr (1, [.int (b2i n1), .int p1, .long f1]))] H := by exact hP.sub [0] rfl
        have hD9 : va_D A [(a1, .inr (1, [.int (b2i n1), .int p1, .long f1]))] := by exact hD.sub [0] (by decide) rfl
        exact W.zret (v := 1) hx hb hr (by first | exact nar_b2i _ | rfl) (fun t ht hW => ⟨⟨1, (), rfl, by rw [hE]; rfl, by rw [ht]; exact hP9, hD9⟩, hS.F ht⟩) hS.2.2 d_R_isUnnormalOfSize_32
theorem d_R_isNothing_0 : decode b_R_isNothing 0 = .ok (.aload_n 0, 1) := by decide +kernel
theorem d_R_isNothing_1 : decode b_R_isNothing 1 = .ok (.getfield 15, 3) := by decide +kernel
theorem d_R_isNothing_4 : decode b_R_isNothing 4 = .ok (.sipush 32766, 3) := by decide +kernel
theorem d_R_isNothing_7 : decode b_R_isNothing 7 = .ok (.if_icmp .gt 16, 3) := by decide +kernel
theorem d_R_isNothing_23 : decode b_R_isNothing 23 = .ok (.iconst 0, 1) := by decide +kernel
theorem d_R_isNothing_24 : decode b_R_isNothing 24 = .ok (.ireturn, 1) := by decide +kernel
theorem d_R_isNothing_10 : decode b_R_isNothing 10 = .ok (.aload_n 0, 1) := by decide +kernel
theorem d_R_isNothing_11 : decode b_R_isNothing 11 = .ok (.getfield 19, 3) := by decide +kernel
theorem d_R_isNothing_14 : decode b_R_isNothing 14 = .ok (.lconst 0, 1) := by decide +kernel
theorem d_R_isNothing_15 : decode b_R_isNothing 15 = .ok (.lcmp, 1) := by decide +kernel
theorem d_R_isNothing_16 : decode b_R_isNothing 16 = .ok (.ifCond .ne 7, 3) := by decide +kernel
theorem d_R_isNothing_19 : decode b_R_isNothing 19 = .ok (.iconst 1, 1) := by decide +kernel
theorem d_R_isNothing_20 : decode b_R_isNothing 20 = .ok (.goto 4, 3) := by decide +kernel
set_option maxHeartbeats 4000000 in
set_option maxRecDepth 100000 in
theorem c_R_isNothing (l : Launch) (dC : Nat → ClassId) (dI : Nat → Nat → Nat) (a1 : Nat) (sz : Nat) (n1 : Bool) (p1 : Int32) (f1 : Int64) : Met l y_R_isNothing w_R_isNothing ({ frames := 0, cells := 0, slots := 0, locals := 0 }) (cPc (dC, dI) [] [.ref a1] [(a1, .inr (1, [.int (b2i n1), .int p1, .long f1]))] sz) (va_Qi (fun (r : Int32) (_ : Unit) => r = b2i ((g_R_isNothing p1 f1))) (fun _ t => va_P (dC, dI) classes [(a1, .inr (1, [.int (b2i n1), .int p1, .long f1]))] t.heap ∧ va_D (va_A [(a1, .inr (1, [.int (b2i n1), .int p1, .long f1]))] sz) [(a1, .inr (1, [.int (b2i n1), .int p1, .long f1]))]) (va_A [(a1, .inr (1, [.int (b2i n1), .int p1, .long f1]))] sz)) 0 0 (va_A [(a1, .inr (1, [.int (b2i n1), .int p1, .long f1]))] sz) := by
  refine Met.ofW (cc := b_R_isNothing) (maxL := 1) (ret := (some .boolean)) (by decide) rfl ?_
  intro p e s m args below meth c s₁ B hml hv
  obtain ⟨rfl, hsz, hP, hK, hD0, hnw⟩ := hv
  have hx := B.exec
  have hb := B.bytes
  have hr := B.returns
  have hts := atoms_spec (ws := w_R_isNothing) B.pre
  have htA : ∀ w ∈ wAll, w.before _ s = true := fun w h => hts w (List.mem_cons_of_mem _ h)
  have hown : s.vm.findClass R_R = some m.cls := findClass_of_methodNamed B.named
  have hlocks := B.notSynchronized
  subst hsz
  have hD := hD0.self (sz := s.heap.size)
  generalize hAe : va_A [(a1, .inr (1, [.int (b2i n1), .int p1, .long f1]))] s.heap.size = A at hD ⊢
  have hA : ∀ q : Nat, s.heap.size ≤ q → A q := fun q h => by rw [← hAe]; exact Or.inr h
  have hS : va_S A s.heap s.heap [] := va_S.rf
  have hP : va_P (dC, dI) classes [(a1, .inr (1, [.int (b2i n1), .int p1, .long f1]))] s.heap := hP
  obtain ⟨H, eH⟩ : ∃ z, z = s.heap := ⟨_, rfl⟩
  rw [← eH] at hP
  have hS : va_S A s.heap H [] := by rw [eH]; exact hS
  rw [← eH]
  generalize ([] : List Loc) = locs at hS ⊢
  have hl := lv_entry ([.ref a1]) (n := 1) (Nat.le_of_ble_eq_true rfl)
  rw [lg_entry_eq]
  generalize (lg_sl ([.ref a1]) ++ List.replicate (1 - (lg_sl ([.ref a1])).length) Slot.unset).toArray = ls at hl ⊢
  have hl : lv_has ls 1 [(0, .ref a1)] := hl
  refine lv_aload_n hx hb d_R_isNothing_0 rfl (lv_at hl 0 rfl) ?_
  refine va_get (D := (dC, dI)) (ci := 1) (v := .int p1) (C := R_R) (T := F_R) (N := 3) hx hb htA in_R hown hK hP 0 rfl rfl 1 (by decide) (htA _ k_10) (fun _ h9 => h9) rfl d_R_isNothing_1 ?_
  refine lv_sipush (v := 32766) hx hb d_R_isNothing_4 (by decide) ?_
  refine lv_icmp_gt (tgt := 23) hx hb d_R_isNothing_7 (by decide) (fun c_7 => ?_) (fun c_7 => ?_)
  · skip
    refine lv_iconst (v := 0) hx hb d_R_isNothing_23 (by decide) ?_
    have hE : g_R_isNothing p1 f1 = (false) := by clear hP hD hl hS; unfold g_R_isNothing; (try dsimp only); rw [if_pos c_7]
    have hP9 : va_P (dC, dI) classes [(a1, .inr (1, [.int (b2i n1), .int p1, .long f1]))] H := by exact hP.sub [0] rfl
    have hD9 : va_D A [(a1, .inr (1, [.int (b2i n1), .int p1, .long f1]))] := by exact hD.sub [0] (by decide) rfl
    exact W.zret (v := 0) hx hb hr (by first | exact nar_b2i _ | rfl) (fun t ht hW => ⟨⟨0, (), rfl, by rw [hE]; rfl, by rw [ht]; exact hP9, hD9⟩, hS.F ht⟩) hS.2.2 d_R_isNothing_24
  · skip
    refine lv_aload_n hx hb d_R_isNothing_10 rfl (lv_at hl 0 rfl) ?_
    refine va_get (D := (dC, dI)) (ci := 1) (v := .long f1) (C := R_R) (T := F_R) (N := 3) hx hb htA in_R hown hK hP 0 rfl rfl 2 (by decide) (htA _ k_11) (fun _ h9 => h9) rfl d_R_isNothing_11 ?_
    refine lv_lconst (v := 0) hx hb d_R_isNothing_14 (by decide) ?_
    refine W.lcmp hx hb d_R_isNothing_15 ?_
    refine lv_if_ne (tgt := 23) hx hb d_R_isNothing_16 (by decide) (fun c_16 => ?_) (fun c_16 => ?_)
    · skip
      have c_16 : ¬ f1 = 0 := fun h9 => c_16 ((lg_cmp_eq _ _).mpr h9)
      refine lv_iconst (v := 0) hx hb d_R_isNothing_23 (by decide) ?_
      have hE : g_R_isNothing p1 f1 = (false) := by clear hP hD hl hS; unfold g_R_isNothing; (try dsimp only); rw [if_neg c_7, if_neg c_16]
      have hP9 : va_P (dC, dI) classes [(a1, .inr (1, [.int (b2i n1), .int p1, .long f1]))] H := by exact hP.sub [0] rfl
      have hD9 : va_D A [(a1, .inr (1, [.int (b2i n1), .int p1, .long f1]))] := by exact hD.sub [0] (by decide) rfl
      exact W.zret (v := 0) hx hb hr (by first | exact nar_b2i _ | rfl) (fun t ht hW => ⟨⟨0, (), rfl, by rw [hE]; rfl, by rw [ht]; exact hP9, hD9⟩, hS.F ht⟩) hS.2.2 d_R_isNothing_24
    · skip
      have c_16 : f1 = 0 := (lg_cmp_eq _ _).mp c_16
      refine lv_iconst (v := 1) hx hb d_R_isNothing_19 (by decide) ?_
      refine lv_goto (tgt := 24) hx hb d_R_isNothing_20 (by decide) ?_
      have hE : g_R_isNothing p1 f1 = (true) := by clear hP hD hl hS; unfold g_R_isNothing; (try dsimp only); rw [if_neg c_7, if_pos c_16]
      have hP9 : va_P (dC, dI) classes [(a1, .inr (1, [.int (b2i n1), .int p1, .long f1]))] H := by exact hP.sub [0] rfl
      have hD9 : va_D A [(a1, .inr (1, [.int (b2i n1), .int p1, .long f1]))] := by exact hD.sub [0] (by decide) rfl
      exact W.zret (v := 1) hx hb hr (by first | exact nar_b2i _ | rfl) (fun t ht hW => ⟨⟨1, (), rfl, by rw [hE]; rfl, by rw [ht]; exact hP9, hD9⟩, hS.F ht⟩) hS.2.2 d_R_isNothing_24
theorem d_R_isInfinite_0 : decode b_R_isInfinite 0 = .ok (.aload_n 0, 1) := by decide +kernel
theorem d_R_isInfinite_1 : decode b_R_isInfinite 1 = .ok (.getfield 15, 3) := by decide +kernel
theorem d_R_isInfinite_4 : decode b_R_isInfinite 4 = .ok (.sipush 32767, 3) := by decide +kernel
theorem d_R_isInfinite_7 : decode b_R_isInfinite 7 = .ok (.if_icmp .ne 18, 3) := by decide +kernel
theorem d_R_isInfinite_25 : decode b_R_isInfinite 25 = .ok (.iconst 0, 1) := by decide +kernel
theorem d_R_isInfinite_26 : decode b_R_isInfinite 26 = .ok (.ireturn, 1) := by decide +kernel
theorem d_R_isInfinite_10 : decode b_R_isInfinite 10 = .ok (.aload_n 0, 1) := by decide +kernel
theorem d_R_isInfinite_11 : decode b_R_isInfinite 11 = .ok (.getfield 19, 3) := by decide +kernel
theorem d_R_isInfinite_14 : decode b_R_isInfinite 14 = .ok (.iconst 1, 1) := by decide +kernel
theorem d_R_isInfinite_15 : decode b_R_isInfinite 15 = .ok (.lshl, 1) := by decide +kernel
theorem d_R_isInfinite_16 : decode b_R_isInfinite 16 = .ok (.lconst 0, 1) := by decide +kernel
theorem d_R_isInfinite_17 : decode b_R_isInfinite 17 = .ok (.lcmp, 1) := by decide +kernel
theorem d_R_isInfinite_18 : decode b_R_isInfinite 18 = .ok (.ifCond .ne 7, 3) := by decide +kernel
theorem d_R_isInfinite_21 : decode b_R_isInfinite 21 = .ok (.iconst 1, 1) := by decide +kernel
theorem d_R_isInfinite_22 : decode b_R_isInfinite 22 = .ok (.goto 4, 3) := by decide +kernel
set_option maxHeartbeats 4000000 in
set_option maxRecDepth 100000 in
theorem c_R_isInfinite (l : Launch) (dC : Nat → ClassId) (dI : Nat → Nat → Nat) (a1 : Nat) (sz : Nat) (n1 : Bool) (p1 : Int32) (f1 : Int64) : Met l y_R_isInfinite w_R_isInfinite ({ frames := 0, cells := 0, slots := 0, locals := 0 }) (cPc (dC, dI) [] [.ref a1] [(a1, .inr (1, [.int (b2i n1), .int p1, .long f1]))] sz) (va_Qi (fun (r : Int32) (_ : Unit) => r = b2i ((g_R_isInfinite p1 f1))) (fun _ t => va_P (dC, dI) classes [(a1, .inr (1, [.int (b2i n1), .int p1, .long f1]))] t.heap ∧ va_D (va_A [(a1, .inr (1, [.int (b2i n1), .int p1, .long f1]))] sz) [(a1, .inr (1, [.int (b2i n1), .int p1, .long f1]))]) (va_A [(a1, .inr (1, [.int (b2i n1), .int p1, .long f1]))] sz)) 0 0 (va_A [(a1, .inr (1, [.int (b2i n1), .int p1, .long f1]))] sz) := by
  refine Met.ofW (cc := b_R_isInfinite) (maxL := 1) (ret := (some .boolean)) (by decide) rfl ?_
  intro p e s m args below meth c s₁ B hml hv
  obtain ⟨rfl, hsz, hP, hK, hD0, hnw⟩ := hv
  have hx := B.exec
  have hb := B.bytes
  have hr := B.returns
  have hts := atoms_spec (ws := w_R_isInfinite) B.pre
  have htA : ∀ w ∈ wAll, w.before _ s = true := fun w h => hts w (List.mem_cons_of_mem _ h)
  have hown : s.vm.findClass R_R = some m.cls := findClass_of_methodNamed B.named
  have hlocks := B.notSynchronized
  subst hsz
  have hD := hD0.self (sz := s.heap.size)
  generalize hAe : va_A [(a1, .inr (1, [.int (b2i n1), .int p1, .long f1]))] s.heap.size = A at hD ⊢
  have hA : ∀ q : Nat, s.heap.size ≤ q → A q := fun q h => by rw [← hAe]; exact Or.inr h
  have hS : va_S A s.heap s.heap [] := va_S.rf
  have hP : va_P (dC, dI) classes [(a1, .inr (1, [.int (b2i n1), .int p1, .long f1]))] s.heap := hP
  obtain ⟨H, eH⟩ : ∃ z, z = s.heap := ⟨_, rfl⟩
  rw [← eH] at hP
  have hS : va_S A s.heap H [] := by rw [eH]; exact hS
  rw [← eH]
  generalize ([] : List Loc) = locs at hS ⊢
  have hl := lv_entry ([.ref a1]) (n := 1) (Nat.le_of_ble_eq_true rfl)
  rw [lg_entry_eq]
  generalize (lg_sl ([.ref a1]) ++ List.replicate (1 - (lg_sl ([.ref a1])).length) Slot.unset).toArray = ls at hl ⊢
  have hl : lv_has ls 1 [(0, .ref a1)] := hl
  refine lv_aload_n hx hb d_R_isInfinite_0 rfl (lv_at hl 0 rfl) ?_
  refine va_get (D := (dC, dI)) (ci := 1) (v := .int p1) (C := R_R) (T := F_R) (N := 3) hx hb htA in_R hown hK hP 0 rfl rfl 1 (by decide) (htA _ k_10) (fun _ h9 => h9) rfl d_R_isInfinite_1 ?_
  refine lv_sipush (v := 32767) hx hb d_R_isInfinite_4 (by decide) ?_
  refine lv_icmp_ne (tgt := 25) hx hb d_R_isInfinite_7 (by decide) (fun c_7 => ?_) (fun c_7 => ?_)
  · skip
    refine lv_iconst (v := 0) hx hb d_R_isInfinite_25 (by decide) ?_
    have hE : g_R_isInfinite p1 f1 = (false) := by clear hP hD hl hS; unfold g_R_isInfinite; (try dsimp only); rw [if_neg c_7]
    have hP9 : va_P (dC, dI) classes [(a1, .inr (1, [.int (b2i n1), .int p1, .long f1]))] H := by exact hP.sub [0] rfl
    have hD9 : va_D A [(a1, .inr (1, [.int (b2i n1), .int p1, .long f1]))] := by exact hD.sub [0] (by decide) rfl
    exact W.zret (v := 0) hx hb hr (by first | exact nar_b2i _ | rfl) (fun t ht hW => ⟨⟨0, (), rfl, by rw [hE]; rfl, by rw [ht]; exact hP9, hD9⟩, hS.F ht⟩) hS.2.2 d_R_isInfinite_26
  · skip
    refine lv_aload_n hx hb d_R_isInfinite_10 rfl (lv_at hl 0 rfl) ?_
    refine va_get (D := (dC, dI)) (ci := 1) (v := .long f1) (C := R_R) (T := F_R) (N := 3) hx hb htA in_R hown hK hP 0 rfl rfl 2 (by decide) (htA _ k_11) (fun _ h9 => h9) rfl d_R_isInfinite_11 ?_
    refine lv_iconst (v := 1) hx hb d_R_isInfinite_14 (by decide) ?_
    refine lv_lshl (v := (sL f1 1)) hx hb d_R_isInfinite_15 rfl ?_
    refine lv_lconst (v := 0) hx hb d_R_isInfinite_16 (by decide) ?_
    refine W.lcmp hx hb d_R_isInfinite_17 ?_
    refine lv_if_ne (tgt := 25) hx hb d_R_isInfinite_18 (by decide) (fun c_18 => ?_) (fun c_18 => ?_)
    · skip
      have c_18 : ¬ (sL f1 1) = 0 := fun h9 => c_18 ((lg_cmp_eq _ _).mpr h9)
      refine lv_iconst (v := 0) hx hb d_R_isInfinite_25 (by decide) ?_
      have hE : g_R_isInfinite p1 f1 = (false) := by clear hP hD hl hS; unfold g_R_isInfinite; (try dsimp only); rw [if_pos c_7, if_neg c_18]
      have hP9 : va_P (dC, dI) classes [(a1, .inr (1, [.int (b2i n1), .int p1, .long f1]))] H := by exact hP.sub [0] rfl
      have hD9 : va_D A [(a1, .inr (1, [.int (b2i n1), .int p1, .long f1]))] := by exact hD.sub [0] (by decide) rfl
      exact W.zret (v := 0) hx hb hr (by first | exact nar_b2i _ | rfl) (fun t ht hW => ⟨⟨0, (), rfl, by rw [hE]; rfl, by rw [ht]; exact hP9, hD9⟩, hS.F ht⟩) hS.2.2 d_R_isInfinite_26
    · skip
      have c_18 : (sL f1 1) = 0 := (lg_cmp_eq _ _).mp c_18
      refine lv_iconst (v := 1) hx hb d_R_isInfinite_21 (by decide) ?_
      refine lv_goto (tgt := 26) hx hb d_R_isInfinite_22 (by decide) ?_
      have hE : g_R_isInfinite p1 f1 = (true) := by clear hP hD hl hS; unfold g_R_isInfinite; (try dsimp only); rw [if_pos c_7, if_pos c_18]
      have hP9 : va_P (dC, dI) classes [(a1, .inr (1, [.int (b2i n1), .int p1, .long f1]))] H := by exact hP.sub [0] rfl
      have hD9 : va_D A [(a1, .inr (1, [.int (b2i n1), .int p1, .long f1]))] := by exact hD.sub [0] (by decide) rfl
      exact W.zret (v := 1) hx hb hr (by first | exact nar_b2i _ | rfl) (fun t ht hW => ⟨⟨1, (), rfl, by rw [hE]; rfl, by rw [ht]; exact hP9, hD9⟩, hS.F ht⟩) hS.2.2 d_R_isInfinite_26
theorem d_R_isNoNumber_0 : decode b_R_isNoNumber 0 = .ok (.aload_n 0, 1) := by decide +kernel
theorem d_R_isNoNumber_1 : decode b_R_isNoNumber 1 = .ok (.getfield 15, 3) := by decide +kernel
theorem d_R_isNoNumber_4 : decode b_R_isNoNumber 4 = .ok (.sipush 32767, 3) := by decide +kernel
theorem d_R_isNoNumber_7 : decode b_R_isNoNumber 7 = .ok (.if_icmp .ne 18, 3) := by decide +kernel
theorem d_R_isNoNumber_25 : decode b_R_isNoNumber 25 = .ok (.iconst 0, 1) := by decide +kernel
theorem d_R_isNoNumber_26 : decode b_R_isNoNumber 26 = .ok (.ireturn, 1) := by decide +kernel
theorem d_R_isNoNumber_10 : decode b_R_isNoNumber 10 = .ok (.aload_n 0, 1) := by decide +kernel
theorem d_R_isNoNumber_11 : decode b_R_isNoNumber 11 = .ok (.getfield 19, 3) := by decide +kernel
theorem d_R_isNoNumber_14 : decode b_R_isNoNumber 14 = .ok (.iconst 1, 1) := by decide +kernel
theorem d_R_isNoNumber_15 : decode b_R_isNoNumber 15 = .ok (.lshl, 1) := by decide +kernel
theorem d_R_isNoNumber_16 : decode b_R_isNoNumber 16 = .ok (.lconst 0, 1) := by decide +kernel
theorem d_R_isNoNumber_17 : decode b_R_isNoNumber 17 = .ok (.lcmp, 1) := by decide +kernel
theorem d_R_isNoNumber_18 : decode b_R_isNoNumber 18 = .ok (.ifCond .eq 7, 3) := by decide +kernel
theorem d_R_isNoNumber_21 : decode b_R_isNoNumber 21 = .ok (.iconst 1, 1) := by decide +kernel
theorem d_R_isNoNumber_22 : decode b_R_isNoNumber 22 = .ok (.goto 4, 3) := by decide +kernel
set_option maxHeartbeats 4000000 in
set_option maxRecDepth 100000 in
theorem c_R_isNoNumber (l : Launch) (dC : Nat → ClassId) (dI : Nat → Nat → Nat) (a1 : Nat) (sz : Nat) (n1 : Bool) (p1 : Int32) (f1 : Int64) : Met l y_R_isNoNumber w_R_isNoNumber ({ frames := 0, cells := 0, slots := 0, locals := 0 }) (cPc (dC, dI) [] [.ref a1] [(a1, .inr (1, [.int (b2i n1), .int p1, .long f1]))] sz) (va_Qi (fun (r : Int32) (_ : Unit) => r = b2i ((g_R_isNoNumber p1 f1))) (fun _ t => va_P (dC, dI) classes [(a1, .inr (1, [.int (b2i n1), .int p1, .long f1]))] t.heap ∧ va_D (va_A [(a1, .inr (1, [.int (b2i n1), .int p1, .long f1]))] sz) [(a1, .inr (1, [.int (b2i n1), .int p1, .long f1]))]) (va_A [(a1, .inr (1, [.int (b2i n1), .int p1, .long f1]))] sz)) 0 0 (va_A [(a1, .inr (1, [.int (b2i n1), .int p1, .long f1]))] sz) := by
  refine Met.ofW (cc := b_R_isNoNumber) (maxL := 1) (ret := (some .boolean)) (by decide) rfl ?_
  intro p e s m args below meth c s₁ B hml hv
  obtain ⟨rfl, hsz, hP, hK, hD0, hnw⟩ := hv
  have hx := B.exec
  have hb := B.bytes
  have hr := B.returns
  have hts := atoms_spec (ws := w_R_isNoNumber) B.pre
  have htA : ∀ w ∈ wAll, w.before _ s = true := fun w h => hts w (List.mem_cons_of_mem _ h)
  have hown : s.vm.findClass R_R = some m.cls := findClass_of_methodNamed B.named
  have hlocks := B.notSynchronized
  subst hsz
  have hD := hD0.self (sz := s.heap.size)
  generalize hAe : va_A [(a1, .inr (1, [.int (b2i n1), .int p1, .long f1]))] s.heap.size = A at hD ⊢
  have hA : ∀ q : Nat, s.heap.size ≤ q → A q := fun q h => by rw [← hAe]; exact Or.inr h
  have hS : va_S A s.heap s.heap [] := va_S.rf
  have hP : va_P (dC, dI) classes [(a1, .inr (1, [.int (b2i n1), .int p1, .long f1]))] s.heap := hP
  obtain ⟨H, eH⟩ : ∃ z, z = s.heap := ⟨_, rfl⟩
  rw [← eH] at hP
  have hS : va_S A s.heap H [] := by rw [eH]; exact hS
  rw [← eH]
  generalize ([] : List Loc) = locs at hS ⊢
  have hl := lv_entry ([.ref a1]) (n := 1) (Nat.le_of_ble_eq_true rfl)
  rw [lg_entry_eq]
  generalize (lg_sl ([.ref a1]) ++ List.replicate (1 - (lg_sl ([.ref a1])).length) Slot.unset).toArray = ls at hl ⊢
  have hl : lv_has ls 1 [(0, .ref a1)] := hl
  refine lv_aload_n hx hb d_R_isNoNumber_0 rfl (lv_at hl 0 rfl) ?_
  refine va_get (D := (dC, dI)) (ci := 1) (v := .int p1) (C := R_R) (T := F_R) (N := 3) hx hb htA in_R hown hK hP 0 rfl rfl 1 (by decide) (htA _ k_10) (fun _ h9 => h9) rfl d_R_isNoNumber_1 ?_
  refine lv_sipush (v := 32767) hx hb d_R_isNoNumber_4 (by decide) ?_
  refine lv_icmp_ne (tgt := 25) hx hb d_R_isNoNumber_7 (by decide) (fun c_7 => ?_) (fun c_7 => ?_)
  · skip
    refine lv_iconst (v := 0) hx hb d_R_isNoNumber_25 (by decide) ?_
    have hE : g_R_isNoNumber p1 f1 = (false) := by clear hP hD hl hS; unfold g_R_isNoNumber; (try dsimp only); rw [if_neg c_7]
    have hP9 : va_P (dC, dI) classes [(a1, .inr (1, [.int (b2i n1), .int p1, .long f1]))] H := by exact hP.sub [0] rfl
    have hD9 : va_D A [(a1, .inr (1, [.int (b2i n1), .int p1, .long f1]))] := by exact hD.sub [0] (by decide) rfl
    exact W.zret (v := 0) hx hb hr (by first | exact nar_b2i _ | rfl) (fun t ht hW => ⟨⟨0, (), rfl, by rw [hE]; rfl, by rw [ht]; exact hP9, hD9⟩, hS.F ht⟩) hS.2.2 d_R_isNoNumber_26
  · skip
    refine lv_aload_n hx hb d_R_isNoNumber_10 rfl (lv_at hl 0 rfl) ?_
    refine va_get (D := (dC, dI)) (ci := 1) (v := .long f1) (C := R_R) (T := F_R) (N := 3) hx hb htA in_R hown hK hP 0 rfl rfl 2 (by decide) (htA _ k_11) (fun _ h9 => h9) rfl d_R_isNoNumber_11 ?_
    refine lv_iconst (v := 1) hx hb d_R_isNoNumber_14 (by decide) ?_
    refine lv_lshl (v := (sL f1 1)) hx hb d_R_isNoNumber_15 rfl ?_
    refine lv_lconst (v := 0) hx hb d_R_isNoNumber_16 (by decide) ?_
    refine W.lcmp hx hb d_R_isNoNumber_17 ?_
    refine lv_if_eq (tgt := 25) hx hb d_R_isNoNumber_18 (by decide) (fun c_18 => ?_) (fun c_18 => ?_)
    · skip
      have c_18 : (sL f1 1) = 0 := (lg_cmp_eq _ _).mp c_18
      refine lv_iconst (v := 0) hx hb d_R_isNoNumber_25 (by decide) ?_
      have hE : g_R_isNoNumber p1 f1 = (false) := by clear hP hD hl hS; unfold g_R_isNoNumber; (try dsimp only); rw [if_pos c_7, if_pos c_18]
      have hP9 : va_P (dC, dI) classes [(a1, .inr (1, [.int (b2i n1), .int p1, .long f1]))] H := by exact hP.sub [0] rfl
      have hD9 : va_D A [(a1, .inr (1, [.int (b2i n1), .int p1, .long f1]))] := by exact hD.sub [0] (by decide) rfl
      exact W.zret (v := 0) hx hb hr (by first | exact nar_b2i _ | rfl) (fun t ht hW => ⟨⟨0, (), rfl, by rw [hE]; rfl, by rw [ht]; exact hP9, hD9⟩, hS.F ht⟩) hS.2.2 d_R_isNoNumber_26
    · skip
      have c_18 : ¬ (sL f1 1) = 0 := fun h9 => c_18 ((lg_cmp_eq _ _).mpr h9)
      refine lv_iconst (v := 1) hx hb d_R_isNoNumber_21 (by decide) ?_
      refine lv_goto (tgt := 26) hx hb d_R_isNoNumber_22 (by decide) ?_
      have hE : g_R_isNoNumber p1 f1 = (true) := by clear hP hD hl hS; unfold g_R_isNoNumber; (try dsimp only); rw [if_pos c_7, if_neg c_18]
      have hP9 : va_P (dC, dI) classes [(a1, .inr (1, [.int (b2i n1), .int p1, .long f1]))] H := by exact hP.sub [0] rfl
      have hD9 : va_D A [(a1, .inr (1, [.int (b2i n1), .int p1, .long f1]))] := by exact hD.sub [0] (by decide) rfl
      exact W.zret (v := 1) hx hb hr (by first | exact nar_b2i _ | rfl) (fun t ht hW => ⟨⟨1, (), rfl, by rw [hE]; rfl, by rw [ht]; exact hP9, hD9⟩, hS.F ht⟩) hS.2.2 d_R_isNoNumber_26
theorem d_R_top_0 : decode b_R_top 0 = .ok (.aload_n 0, 1) := by decide +kernel
theorem d_R_top_1 : decode b_R_top 1 = .ok (.getfield 9, 3) := by decide +kernel
theorem d_R_top_4 : decode b_R_top 4 = .ok (.ifCond .eq 13, 3) := by decide +kernel
theorem d_R_top_17 : decode b_R_top 17 = .ok (.aload_n 0, 1) := by decide +kernel
theorem d_R_top_18 : decode b_R_top 18 = .ok (.getfield 15, 3) := by decide +kernel
theorem d_R_top_21 : decode b_R_top 21 = .ok (.ireturn, 1) := by decide +kernel
theorem d_R_top_7 : decode b_R_top 7 = .ok (.aload_n 0, 1) := by decide +kernel
theorem d_R_top_8 : decode b_R_top 8 = .ok (.getfield 15, 3) := by decide +kernel
theorem d_R_top_11 : decode b_R_top 11 = .ok (.ldc 23, 2) := by decide +kernel
theorem d_R_top_13 : decode b_R_top 13 = .ok (.ior, 1) := by decide +kernel
theorem d_R_top_14 : decode b_R_top 14 = .ok (.goto 7, 3) := by decide +kernel
set_option maxHeartbeats 4000000 in
set_option maxRecDepth 100000 in
theorem c_R_top (l : Launch) (dC : Nat → ClassId) (dI : Nat → Nat → Nat) (a1 : Nat) (sz : Nat) (n1 : Bool) (p1 : Int32) (f1 : Int64) : Met l y_R_top w_R_top ({ frames := 0, cells := 0, slots := 0, locals := 0 }) (cPc (dC, dI) [] [.ref a1] [(a1, .inr (1, [.int (b2i n1), .int p1, .long f1]))] sz) (va_Qi (fun (r : Int32) (_ : Unit) => r = (g_R_top n1 p1)) (fun _ t => va_P (dC, dI) classes [(a1, .inr (1, [.int (b2i n1), .int p1, .long f1]))] t.heap ∧ va_D (va_A [(a1, .inr (1, [.int (b2i n1), .int p1, .long f1]))] sz) [(a1, .inr (1, [.int (b2i n1), .int p1, .long f1]))]) (va_A [(a1, .inr (1, [.int (b2i n1), .int p1, .long f1]))] sz)) 0 0 (va_A [(a1, .inr (1, [.int (b2i n1), .int p1, .long f1]))] sz) := by
  refine Met.ofW (cc := b_R_top) (maxL := 1) (ret := (some .int)) (by decide) rfl ?_
  intro p e s m args below meth c s₁ B hml hv
  obtain ⟨rfl, hsz, hP, hK, hD0, hnw⟩ := hv
  have hx := B.exec
  have hb := B.bytes
  have hr := B.returns
  have hts := atoms_spec (ws := w_R_top) B.pre
  have htA : ∀ w ∈ wAll, w.before _ s = true := fun w h => hts w (List.mem_cons_of_mem _ h)
  have hown : s.vm.findClass R_R = some m.cls := findClass_of_methodNamed B.named
  have hlocks := B.notSynchronized
  subst hsz
  have hD := hD0.self (sz := s.heap.size)
  generalize hAe : va_A [(a1, .inr (1, [.int (b2i n1), .int p1, .long f1]))] s.heap.size = A at hD ⊢
  have hA : ∀ q : Nat, s.heap.size ≤ q → A q := fun q h => by rw [← hAe]; exact Or.inr h
  have hS : va_S A s.heap s.heap [] := va_S.rf
  have hP : va_P (dC, dI) classes [(a1, .inr (1, [.int (b2i n1), .int p1, .long f1]))] s.heap := hP
  obtain ⟨H, eH⟩ : ∃ z, z = s.heap := ⟨_, rfl⟩
  rw [← eH] at hP
  have hS : va_S A s.heap H [] := by rw [eH]; exact hS
  rw [← eH]
  generalize ([] : List Loc) = locs at hS ⊢
  have hl := lv_entry ([.ref a1]) (n := 1) (Nat.le_of_ble_eq_true rfl)
  rw [lg_entry_eq]
  generalize (lg_sl ([.ref a1]) ++ List.replicate (1 - (lg_sl ([.ref a1])).length) Slot.unset).toArray = ls at hl ⊢
  have hl : lv_has ls 1 [(0, .ref a1)] := hl
  refine lv_aload_n hx hb d_R_top_0 rfl (lv_at hl 0 rfl) ?_
  refine va_get (D := (dC, dI)) (ci := 1) (v := .int (b2i n1)) (C := R_R) (T := F_R) (N := 3) hx hb htA in_R hown hK hP 0 rfl rfl 0 (by decide) (htA _ k_9) (fun _ h9 => h9) rfl d_R_top_1 ?_
  refine lv_if_eq (tgt := 17) hx hb d_R_top_4 (by decide) (fun c_4 => ?_) (fun c_4 => ?_)
  · skip
    have c_4 : ¬ n1 = true := b2i_z c_4
    refine lv_aload_n hx hb d_R_top_17 rfl (lv_at hl 0 rfl) ?_
    refine va_get (D := (dC, dI)) (ci := 1) (v := .int p1) (C := R_R) (T := F_R) (N := 3) hx hb htA in_R hown hK hP 0 rfl rfl 1 (by decide) (htA _ k_10) (fun _ h9 => h9) rfl d_R_top_18 ?_
    have hE : g_R_top n1 p1 = (p1) := by clear hP hD hl hS; unfold g_R_top; (try dsimp only); rw [if_neg c_4]
    have hP9 : va_P (dC, dI) classes [(a1, .inr (1, [.int (b2i n1), .int p1, .long f1]))] H := by exact hP.sub [0] rfl
    have hD9 : va_D A [(a1, .inr (1, [.int (b2i n1), .int p1, .long f1]))] := by exact hD.sub [0] (by decide) rfl
    exact W.iret (v := p1) hx hb hr (fun t ht hW => ⟨⟨p1, (), rfl, by rw [hE], by rw [ht]; exact hP9, hD9⟩, hS.F ht⟩) hS.2.2 d_R_top_21
  · skip
    have c_4 : n1 = true := b2i_nz c_4
    refine lv_aload_n hx hb d_R_top_7 rfl (lv_at hl 0 rfl) ?_
    refine va_get (D := (dC, dI)) (ci := 1) (v := .int p1) (C := R_R) (T := F_R) (N := 3) hx hb htA in_R hown hK hP 0 rfl rfl 1 (by decide) (htA _ k_10) (fun _ h9 => h9) rfl d_R_top_8 ?_
    refine lv_ldc (v := 32768) hx hb hown (htA _ k_19) d_R_top_11 ?_
    refine lv_ior hx hb d_R_top_13 ?_
    refine lv_goto (tgt := 21) hx hb d_R_top_14 (by decide) ?_
    have hE : g_R_top n1 p1 = ((p1 ||| 32768)) := by clear hP hD hl hS; unfold g_R_top; (try dsimp only); rw [if_pos c_4]
    have hP9 : va_P (dC, dI) classes [(a1, .inr (1, [.int (b2i n1), .int p1, .long f1]))] H := by exact hP.sub [0] rfl
    have hD9 : va_D A [(a1, .inr (1, [.int (b2i n1), .int p1, .long f1]))] := by exact hD.sub [0] (by decide) rfl
    exact W.iret (v := (p1 ||| 32768)) hx hb hr (fun t ht hW => ⟨⟨(p1 ||| 32768), (), rfl, by rw [hE], by rw [ht]; exact hP9, hD9⟩, hS.F ht⟩) hS.2.2 d_R_top_21
