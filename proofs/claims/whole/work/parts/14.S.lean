theorem d_S_isZero_0 : decode b_S_isZero 0 = .ok (.aload_n 0, 1) := by decide +kernel
theorem d_S_isZero_1 : decode b_S_isZero 1 = .ok (.getfield 9, 3) := by decide +kernel
theorem d_S_isZero_4 : decode b_S_isZero 4 = .ok (.lconst 0, 1) := by decide +kernel
theorem d_S_isZero_5 : decode b_S_isZero 5 = .ok (.lcmp, 1) := by decide +kernel
theorem d_S_isZero_6 : decode b_S_isZero 6 = .ok (.ifCond .ne 16, 3) := by decide +kernel
theorem d_S_isZero_22 : decode b_S_isZero 22 = .ok (.iconst 0, 1) := by decide +kernel
theorem d_S_isZero_23 : decode b_S_isZero 23 = .ok (.ireturn, 1) := by decide +kernel
theorem d_S_isZero_9 : decode b_S_isZero 9 = .ok (.aload_n 0, 1) := by decide +kernel
theorem d_S_isZero_10 : decode b_S_isZero 10 = .ok (.getfield 15, 3) := by decide +kernel
theorem d_S_isZero_13 : decode b_S_isZero 13 = .ok (.lconst 0, 1) := by decide +kernel
theorem d_S_isZero_14 : decode b_S_isZero 14 = .ok (.lcmp, 1) := by decide +kernel
theorem d_S_isZero_15 : decode b_S_isZero 15 = .ok (.ifCond .ne 7, 3) := by decide +kernel
theorem d_S_isZero_18 : decode b_S_isZero 18 = .ok (.iconst 1, 1) := by decide +kernel
theorem d_S_isZero_19 : decode b_S_isZero 19 = .ok (.goto 4, 3) := by decide +kernel
set_option maxHeartbeats 4000000 in
set_option maxRecDepth 100000 in
theorem c_S_isZero (l : Launch) (dC : Nat → ClassId) (dI : Nat → Nat → Nat) (a4 : Nat) (sz : Nat) (hi : Int64) (lo : Int64) (ex : Int32) : Met l y_S_isZero w_S_isZero ({ frames := 0, cells := 0, slots := 0, locals := 0 }) (cPc (dC, dI) [] [.ref a4] [(a4, .inr (2, [.long hi, .long lo, .int ex]))] sz) (va_Qi (fun (r : Int32) (_ : Unit) => r = b2i ((g_S_isZero hi lo))) (fun _ t => va_P (dC, dI) classes [(a4, .inr (2, [.long hi, .long lo, .int ex]))] t.heap ∧ va_D (va_A [(a4, .inr (2, [.long hi, .long lo, .int ex]))] sz) [(a4, .inr (2, [.long hi, .long lo, .int ex]))]) (va_A [(a4, .inr (2, [.long hi, .long lo, .int ex]))] sz)) 0 0 (va_A [(a4, .inr (2, [.long hi, .long lo, .int ex]))] sz) := by
  refine Met.ofW (cc := b_S_isZero) (maxL := 1) (ret := (some .boolean)) (by decide) rfl ?_
  intro p e s m args below meth c s₁ B hml hv
  obtain ⟨rfl, hsz, hP, hK, hD0, hnw⟩ := hv
  have hx := B.exec
  have hb := B.bytes
  have hr := B.returns
  have hts := atoms_spec (ws := w_S_isZero) B.pre
  have htA : ∀ w ∈ wAll, w.before _ s = true := fun w h => hts w (List.mem_cons_of_mem _ h)
  have hown : s.vm.findClass R_S = some m.cls := findClass_of_methodNamed B.named
  have hlocks := B.notSynchronized
  subst hsz
  have hD := hD0.self (sz := s.heap.size)
  generalize hAe : va_A [(a4, .inr (2, [.long hi, .long lo, .int ex]))] s.heap.size = A at hD ⊢
  have hA : ∀ q : Nat, s.heap.size ≤ q → A q := fun q h => by rw [← hAe]; exact Or.inr h
  have hS : va_S A s.heap s.heap [] := va_S.rf
  have hP : va_P (dC, dI) classes [(a4, .inr (2, [.long hi, .long lo, .int ex]))] s.heap := hP
  obtain ⟨H, eH⟩ : ∃ z, z = s.heap := ⟨_, rfl⟩
  rw [← eH] at hP
  have hS : va_S A s.heap H [] := by rw [eH]; exact hS
  rw [← eH]
  generalize ([] : List Loc) = locs at hS ⊢
  have hl := lv_entry ([.ref a4]) (n := 1) (Nat.le_of_ble_eq_true rfl)
  rw [lg_entry_eq]
  generalize (lg_sl ([.ref a4]) ++ List.replicate (1 - (lg_sl ([.ref a4])).length) Slot.unset).toArray = ls at hl ⊢
  have hl : lv_has ls 1 [(0, .ref a4)] := hl
  refine lv_aload_n hx hb d_S_isZero_0 rfl (lv_at hl 0 rfl) ?_
  refine va_get (D := (dC, dI)) (ci := 2) (v := .long hi) (C := R_S) (T := F_S) (N := 3) hx hb htA in_S hown hK hP 0 rfl rfl 0 (by decide) (htA _ k_14) (fun _ h9 => h9) rfl d_S_isZero_1 ?_
  refine lv_lconst (v := 0) hx hb d_S_isZero_4 (by decide) ?_
  refine W.lcmp hx hb d_S_isZero_5 ?_
  refine lv_if_ne (tgt := 22) hx hb d_S_isZero_6 (by decide) (fun c_6 => ?_) (fun c_6 => ?_)
  · skip
    have c_6 : ¬ hi = 0 := fun h9 => c_6 ((lg_cmp_eq _ _).mpr h9)
    refine lv_iconst (v := 0) hx hb d_S_isZero_22 (by decide) ?_
    have hE : g_S_isZero hi lo = (false) := by clear hP hD hl hS; unfold g_S_isZero; (try dsimp only); rw [if_neg c_6]
    have hP9 : va_P (dC, dI) classes [(a4, .inr (2, [.long hi, .long lo, .int ex]))] H := by exact hP.sub [0] rfl
    have hD9 : va_D A [(a4, .inr (2, [.long hi, .long lo, .int ex]))] := by exact hD.sub [0] (by decide) rfl
    exact W.zret (v := 0) hx hb hr (by first | exact nar_b2i _ | rfl) (fun t ht hW => ⟨⟨0, (), rfl, by rw [hE]; rfl, by rw [ht]; exact hP9, hD9⟩, hS.F ht⟩) hS.2.2 d_S_isZero_23
  · skip
    have c_6 : hi = 0 := (lg_cmp_eq _ _).mp c_6
    refine lv_aload_n hx hb d_S_isZero_9 rfl (lv_at hl 0 rfl) ?_
    refine va_get (D := (dC, dI)) (ci := 2) (v := .long lo) (C := R_S) (T := F_S) (N := 3) hx hb htA in_S hown hK hP 0 rfl rfl 1 (by decide) (htA _ k_15) (fun _ h9 => h9) rfl d_S_isZero_10 ?_
    refine lv_lconst (v := 0) hx hb d_S_isZero_13 (by decide) ?_
    refine W.lcmp hx hb d_S_isZero_14 ?_
    refine lv_if_ne (tgt := 22) hx hb d_S_isZero_15 (by decide) (fun c_15 => ?_) (fun c_15 => ?_)
    · skip
      have c_15 : ¬ lo = 0 := fun h9 => c_15 ((lg_cmp_eq _ _).mpr h9)
      refine lv_iconst (v := 0) hx hb d_S_isZero_22 (by decide) ?_
      have hE : g_S_isZero hi lo = (false) := by clear hP hD hl hS; unfold g_S_isZero; (try dsimp only); rw [if_pos c_6, if_neg c_15]
      have hP9 : va_P (dC, dI) classes [(a4, .inr (2, [.long hi, .long lo, .int ex]))] H := by exact hP.sub [0] rfl
      have hD9 : va_D A [(a4, .inr (2, [.long hi, .long lo, .int ex]))] := by exact hD.sub [0] (by decide) rfl
      exact W.zret (v := 0) hx hb hr (by first | exact nar_b2i _ | rfl) (fun t ht hW => ⟨⟨0, (), rfl, by rw [hE]; rfl, by rw [ht]; exact hP9, hD9⟩, hS.F ht⟩) hS.2.2 d_S_isZero_23
    · skip
      have c_15 : lo = 0 := (lg_cmp_eq _ _).mp c_15
      refine lv_iconst (v := 1) hx hb d_S_isZero_18 (by decide) ?_
      refine lv_goto (tgt := 23) hx hb d_S_isZero_19 (by decide) ?_
      have hE : g_S_isZero hi lo = (true) := by clear hP hD hl hS; unfold g_S_isZero; (try dsimp only); rw [if_pos c_6, if_pos c_15]
      have hP9 : va_P (dC, dI) classes [(a4, .inr (2, [.long hi, .long lo, .int ex]))] H := by exact hP.sub [0] rfl
      have hD9 : va_D A [(a4, .inr (2, [.long hi, .long lo, .int ex]))] := by exact hD.sub [0] (by decide) rfl
      exact W.zret (v := 1) hx hb hr (by first | exact nar_b2i _ | rfl) (fun t ht hW => ⟨⟨1, (), rfl, by rw [hE]; rfl, by rw [ht]; exact hP9, hD9⟩, hS.F ht⟩) hS.2.2 d_S_isZero_23
theorem d_S_power_0 : decode b_S_power 0 = .ok (.aload_n 0, 1) := by decide +kernel
theorem d_S_power_1 : decode b_S_power 1 = .ok (.getfield 18, 3) := by decide +kernel
theorem d_S_power_4 : decode b_S_power 4 = .ok (.sipush 16446, 3) := by decide +kernel
theorem d_S_power_7 : decode b_S_power 7 = .ok (.iadd, 1) := by decide +kernel
theorem d_S_power_8 : decode b_S_power 8 = .ok (.ireturn, 1) := by decide +kernel
set_option maxHeartbeats 4000000 in
set_option maxRecDepth 100000 in
theorem c_S_power (l : Launch) (dC : Nat → ClassId) (dI : Nat → Nat → Nat) (a4 : Nat) (sz : Nat) (hi : Int64) (lo : Int64) (ex : Int32) : Met l y_S_power w_S_power ({ frames := 0, cells := 0, slots := 0, locals := 0 }) (cPc (dC, dI) [] [.ref a4] [(a4, .inr (2, [.long hi, .long lo, .int ex]))] sz) (va_Qi (fun (r : Int32) (_ : Unit) => r = (g_S_power ex)) (fun _ t => va_P (dC, dI) classes [(a4, .inr (2, [.long hi, .long lo, .int ex]))] t.heap ∧ va_D (va_A [(a4, .inr (2, [.long hi, .long lo, .int ex]))] sz) [(a4, .inr (2, [.long hi, .long lo, .int ex]))]) (va_A [(a4, .inr (2, [.long hi, .long lo, .int ex]))] sz)) 0 0 (va_A [(a4, .inr (2, [.long hi, .long lo, .int ex]))] sz) := by
  refine Met.ofW (cc := b_S_power) (maxL := 1) (ret := (some .int)) (by decide) rfl ?_
  intro p e s m args below meth c s₁ B hml hv
  obtain ⟨rfl, hsz, hP, hK, hD0, hnw⟩ := hv
  have hx := B.exec
  have hb := B.bytes
  have hr := B.returns
  have hts := atoms_spec (ws := w_S_power) B.pre
  have htA : ∀ w ∈ wAll, w.before _ s = true := fun w h => hts w (List.mem_cons_of_mem _ h)
  have hown : s.vm.findClass R_S = some m.cls := findClass_of_methodNamed B.named
  have hlocks := B.notSynchronized
  subst hsz
  have hD := hD0.self (sz := s.heap.size)
  generalize hAe : va_A [(a4, .inr (2, [.long hi, .long lo, .int ex]))] s.heap.size = A at hD ⊢
  have hA : ∀ q : Nat, s.heap.size ≤ q → A q := fun q h => by rw [← hAe]; exact Or.inr h
  have hS : va_S A s.heap s.heap [] := va_S.rf
  have hP : va_P (dC, dI) classes [(a4, .inr (2, [.long hi, .long lo, .int ex]))] s.heap := hP
  obtain ⟨H, eH⟩ : ∃ z, z = s.heap := ⟨_, rfl⟩
  rw [← eH] at hP
  have hS : va_S A s.heap H [] := by rw [eH]; exact hS
  rw [← eH]
  generalize ([] : List Loc) = locs at hS ⊢
  have hl := lv_entry ([.ref a4]) (n := 1) (Nat.le_of_ble_eq_true rfl)
  rw [lg_entry_eq]
  generalize (lg_sl ([.ref a4]) ++ List.replicate (1 - (lg_sl ([.ref a4])).length) Slot.unset).toArray = ls at hl ⊢
  have hl : lv_has ls 1 [(0, .ref a4)] := hl
  refine lv_aload_n hx hb d_S_power_0 rfl (lv_at hl 0 rfl) ?_
  refine va_get (D := (dC, dI)) (ci := 2) (v := .int ex) (C := R_S) (T := F_S) (N := 3) hx hb htA in_S hown hK hP 0 rfl rfl 2 (by decide) (htA _ k_16) (fun _ h9 => h9) rfl d_S_power_1 ?_
  refine lv_sipush (v := 16446) hx hb d_S_power_4 (by decide) ?_
  refine lv_iadd hx hb d_S_power_7 ?_
  have hE : g_S_power ex = ((ex + 16446)) := by clear hP hD hl hS; unfold g_S_power; rfl
  have hP9 : va_P (dC, dI) classes [(a4, .inr (2, [.long hi, .long lo, .int ex]))] H := by exact hP.sub [0] rfl
  have hD9 : va_D A [(a4, .inr (2, [.long hi, .long lo, .int ex]))] := by exact hD.sub [0] (by decide) rfl
  exact W.iret (v := (ex + 16446)) hx hb hr (fun t ht hW => ⟨⟨(ex + 16446), (), rfl, by rw [hE], by rw [ht]; exact hP9, hD9⟩, hS.F ht⟩) hS.2.2 d_S_power_8
theorem d_S_isLessThan_0 : decode b_S_isLessThan 0 = .ok (.aload_n 0, 1) := by decide +kernel
theorem d_S_isLessThan_1 : decode b_S_isLessThan 1 = .ok (.getfield 18, 3) := by decide +kernel
theorem d_S_isLessThan_4 : decode b_S_isLessThan 4 = .ok (.aload_n 1, 1) := by decide +kernel
theorem d_S_isLessThan_5 : decode b_S_isLessThan 5 = .ok (.getfield 18, 3) := by decide +kernel
theorem d_S_isLessThan_8 : decode b_S_isLessThan 8 = .ok (.if_icmp .eq 20, 3) := by decide +kernel
theorem d_S_isLessThan_28 : decode b_S_isLessThan 28 = .ok (.aload_n 0, 1) := by decide +kernel
theorem d_S_isLessThan_29 : decode b_S_isLessThan 29 = .ok (.getfield 9, 3) := by decide +kernel
theorem d_S_isLessThan_32 : decode b_S_isLessThan 32 = .ok (.aload_n 1, 1) := by decide +kernel
theorem d_S_isLessThan_33 : decode b_S_isLessThan 33 = .ok (.getfield 9, 3) := by decide +kernel
theorem d_S_isLessThan_36 : decode b_S_isLessThan 36 = .ok (.invokestatic 39, 3) := by decide +kernel
theorem d_S_isLessThan_39 : decode b_S_isLessThan 39 = .ok (.ifCond .ge 7, 3) := by decide +kernel
theorem d_S_isLessThan_46 : decode b_S_isLessThan 46 = .ok (.iconst 0, 1) := by decide +kernel
theorem d_S_isLessThan_47 : decode b_S_isLessThan 47 = .ok (.ireturn, 1) := by decide +kernel
theorem d_S_isLessThan_42 : decode b_S_isLessThan 42 = .ok (.iconst 1, 1) := by decide +kernel
theorem d_S_isLessThan_43 : decode b_S_isLessThan 43 = .ok (.goto 4, 3) := by decide +kernel
theorem d_S_isLessThan_11 : decode b_S_isLessThan 11 = .ok (.aload_n 0, 1) := by decide +kernel
theorem d_S_isLessThan_12 : decode b_S_isLessThan 12 = .ok (.getfield 18, 3) := by decide +kernel
theorem d_S_isLessThan_15 : decode b_S_isLessThan 15 = .ok (.aload_n 1, 1) := by decide +kernel
theorem d_S_isLessThan_16 : decode b_S_isLessThan 16 = .ok (.getfield 18, 3) := by decide +kernel
theorem d_S_isLessThan_19 : decode b_S_isLessThan 19 = .ok (.if_icmp .ge 7, 3) := by decide +kernel
theorem d_S_isLessThan_26 : decode b_S_isLessThan 26 = .ok (.iconst 0, 1) := by decide +kernel
theorem d_S_isLessThan_27 : decode b_S_isLessThan 27 = .ok (.ireturn, 1) := by decide +kernel
theorem d_S_isLessThan_22 : decode b_S_isLessThan 22 = .ok (.iconst 1, 1) := by decide +kernel
theorem d_S_isLessThan_23 : decode b_S_isLessThan 23 = .ok (.goto 4, 3) := by decide +kernel
set_option maxHeartbeats 4000000 in
set_option maxRecDepth 100000 in
theorem c_S_isLessThan (l : Launch) (dC : Nat → ClassId) (dI : Nat → Nat → Nat) (a4 : Nat) (a5 : Nat) (sz : Nat) (hi : Int64) (lo : Int64) (ex : Int32) (hi2 : Int64) (lo2 : Int64) (ex2 : Int32) : Met l y_S_isLessThan w_S_isLessThan ({ frames := 2, cells := 0, slots := 0, locals := 46 }) (cPc (dC, dI) [] [.ref a4, .ref a5] [(a4, .inr (2, [.long hi, .long lo, .int ex])), (a5, .inr (2, [.long hi2, .long lo2, .int ex2]))] sz) (va_Qi (fun (r : Int32) (_ : Unit) => r = b2i ((g_S_isLessThan hi ex hi2 ex2))) (fun _ t => va_P (dC, dI) classes [(a4, .inr (2, [.long hi, .long lo, .int ex])), (a5, .inr (2, [.long hi2, .long lo2, .int ex2]))] t.heap ∧ va_D (va_A [(a4, .inr (2, [.long hi, .long lo, .int ex])), (a5, .inr (2, [.long hi2, .long lo2, .int ex2]))] sz) [(a4, .inr (2, [.long hi, .long lo, .int ex])), (a5, .inr (2, [.long hi2, .long lo2, .int ex2]))]) (va_A [(a4, .inr (2, [.long hi, .long lo, .int ex])), (a5, .inr (2, [.long hi2, .long lo2, .int ex2]))] sz)) 0 0 (va_A [(a4, .inr (2, [.long hi, .long lo, .int ex])), (a5, .inr (2, [.long hi2, .long lo2, .int ex2]))] sz) := by
  refine Met.ofW (cc := b_S_isLessThan) (maxL := 2) (ret := (some .boolean)) (by decide) rfl ?_
  intro p e s m args below meth c s₁ B hml hv
  obtain ⟨rfl, hsz, hP, hK, hD0, hnw⟩ := hv
  have hx := B.exec
  have hb := B.bytes
  have hr := B.returns
  have hts := atoms_spec (ws := w_S_isLessThan) B.pre
  have htA : ∀ w ∈ wAll, w.before _ s = true := fun w h => hts w (List.mem_cons_of_mem _ h)
  have hown : s.vm.findClass R_S = some m.cls := findClass_of_methodNamed B.named
  have hlocks := B.notSynchronized
  subst hsz
  have hD := hD0.self (sz := s.heap.size)
  generalize hAe : va_A [(a4, .inr (2, [.long hi, .long lo, .int ex])), (a5, .inr (2, [.long hi2, .long lo2, .int ex2]))] s.heap.size = A at hD ⊢
  have hA : ∀ q : Nat, s.heap.size ≤ q → A q := fun q h => by rw [← hAe]; exact Or.inr h
  have hS : va_S A s.heap s.heap [] := va_S.rf
  have hP : va_P (dC, dI) classes [(a4, .inr (2, [.long hi, .long lo, .int ex])), (a5, .inr (2, [.long hi2, .long lo2, .int ex2]))] s.heap := hP
  obtain ⟨H, eH⟩ : ∃ z, z = s.heap := ⟨_, rfl⟩
  rw [← eH] at hP
  have hS : va_S A s.heap H [] := by rw [eH]; exact hS
  rw [← eH]
  generalize ([] : List Loc) = locs at hS ⊢
  have hl := lv_entry ([.ref a4, .ref a5]) (n := 2) (Nat.le_of_ble_eq_true rfl)
  rw [lg_entry_eq]
  generalize (lg_sl ([.ref a4, .ref a5]) ++ List.replicate (2 - (lg_sl ([.ref a4, .ref a5])).length) Slot.unset).toArray = ls at hl ⊢
  have hl : lv_has ls 2 [(0, .ref a4), (1, .ref a5)] := hl
  refine lv_aload_n hx hb d_S_isLessThan_0 rfl (lv_at hl 0 rfl) ?_
  refine va_get (D := (dC, dI)) (ci := 2) (v := .int ex) (C := R_S) (T := F_S) (N := 3) hx hb htA in_S hown hK hP 0 rfl rfl 2 (by decide) (htA _ k_16) (fun _ h9 => h9) rfl d_S_isLessThan_1 ?_
  refine lv_aload_n hx hb d_S_isLessThan_4 rfl (lv_at hl 1 rfl) ?_
  refine va_get (D := (dC, dI)) (ci := 2) (v := .int ex2) (C := R_S) (T := F_S) (N := 3) hx hb htA in_S hown hK hP 1 rfl rfl 2 (by decide) (htA _ k_16) (fun _ h9 => h9) rfl d_S_isLessThan_5 ?_
  refine lv_icmp_eq (tgt := 28) hx hb d_S_isLessThan_8 (by decide) (fun c_8 => ?_) (fun c_8 => ?_)
  · skip
    refine lv_aload_n hx hb d_S_isLessThan_28 rfl (lv_at hl 0 rfl) ?_
    refine va_get (D := (dC, dI)) (ci := 2) (v := .long hi) (C := R_S) (T := F_S) (N := 3) hx hb htA in_S hown hK hP 0 rfl rfl 0 (by decide) (htA _ k_14) (fun _ h9 => h9) rfl d_S_isLessThan_29 ?_
    refine lv_aload_n hx hb d_S_isLessThan_32 rfl (lv_at hl 1 rfl) ?_
    refine va_get (D := (dC, dI)) (ci := 2) (v := .long hi2) (C := R_S) (T := F_S) (N := 3) hx hb htA in_S hown hK hP 1 rfl rfl 0 (by decide) (htA _ k_14) (fun _ h9 => h9) rfl d_S_isLessThan_33 ?_
    have hPc := hP.sub (ws' := []) [] rfl
    have hDc := hD.sub (ws' := []) [] (by decide) rfl
    have hKc := hK.sub (tys' := []) [] rfl
    have hFc := va_free (wc := []) hD hS hA [] rfl
    refine cc_i (va_runS (As := [.long hi, .long hi2]) (rest := []) ⟨hx, hb, hml, hown, htA⟩ (c_Lg_compareUnsigned l dC dI H.size hi hi2) (va_cwS 2 htA (gi_S k_33 k_34 k_2 (gi_code k_5)) rfl rfl rfl (by decide +kernel) ⟨Nat.le_of_ble_eq_true rfl, Nat.le_of_ble_eq_true rfl⟩) (pre_S hnw hPc hKc hDc) rfl rfl hl.1 rfl (lv_room (Nat.le_of_ble_eq_true rfl)) d_S_isLessThan_36 ⟨Nat.le_of_ble_eq_true rfl, Nat.le_of_ble_eq_true rfl⟩) hS hFc hP hD [] [0, 1] (wr := [(a4, .inr (2, [.long hi, .long lo, .int ex])), (a5, .inr (2, [.long hi2, .long lo2, .int ex2]))]) rfl rfl (by decide) (by decide) (fun H locs hP hD hS => ?_)
    have hP : va_P (dC, dI) classes [(a4, .inr (2, [.long hi, .long lo, .int ex])), (a5, .inr (2, [.long hi2, .long lo2, .int ex2]))] H := hP
    have hD : va_D A [(a4, .inr (2, [.long hi, .long lo, .int ex])), (a5, .inr (2, [.long hi2, .long lo2, .int ex2]))] := hD
    refine lv_if_ge (tgt := 46) hx hb d_S_isLessThan_39 (by decide) (fun c_39 => ?_) (fun c_39 => ?_)
    · skip
      have c_39 : uN hi2 ≤ uN hi := (cU_ge _ _).mp c_39
      refine lv_iconst (v := 0) hx hb d_S_isLessThan_46 (by decide) ?_
      have hE : g_S_isLessThan hi ex hi2 ex2 = (false) := by clear hP hD hl hS; unfold g_S_isLessThan; (try dsimp only); rw [if_pos c_8, if_pos c_39]
      have hP9 : va_P (dC, dI) classes [(a4, .inr (2, [.long hi, .long lo, .int ex])), (a5, .inr (2, [.long hi2, .long lo2, .int ex2]))] H := by exact hP.sub [0, 1] rfl
      have hD9 : va_D A [(a4, .inr (2, [.long hi, .long lo, .int ex])), (a5, .inr (2, [.long hi2, .long lo2, .int ex2]))] := by exact hD.sub [0, 1] (by decide) rfl
      exact W.zret (v := 0) hx hb hr (by first | exact nar_b2i _ | rfl) (fun t ht hW => ⟨⟨0, (), rfl, by rw [hE]; rfl, by rw [ht]; exact hP9, hD9⟩, hS.F ht⟩) hS.2.2 d_S_isLessThan_47
    · skip
      have c_39 : ¬ uN hi2 ≤ uN hi := fun h9 => c_39 ((cU_ge _ _).mpr h9)
      refine lv_iconst (v := 1) hx hb d_S_isLessThan_42 (by decide) ?_
      refine lv_goto (tgt := 47) hx hb d_S_isLessThan_43 (by decide) ?_
      have hE : g_S_isLessThan hi ex hi2 ex2 = (true) := by clear hP hD hl hS; unfold g_S_isLessThan; (try dsimp only); rw [if_pos c_8, if_neg c_39]
      have hP9 : va_P (dC, dI) classes [(a4, .inr (2, [.long hi, .long lo, .int ex])), (a5, .inr (2, [.long hi2, .long lo2, .int ex2]))] H := by exact hP.sub [0, 1] rfl
      have hD9 : va_D A [(a4, .inr (2, [.long hi, .long lo, .int ex])), (a5, .inr (2, [.long hi2, .long lo2, .int ex2]))] := by exact hD.sub [0, 1] (by decide) rfl
      exact W.zret (v := 1) hx hb hr (by first | exact nar_b2i _ | rfl) (fun t ht hW => ⟨⟨1, (), rfl, by rw [hE]; rfl, by rw [ht]; exact hP9, hD9⟩, hS.F ht⟩) hS.2.2 d_S_isLessThan_47
  · skip
    refine lv_aload_n hx hb d_S_isLessThan_11 rfl (lv_at hl 0 rfl) ?_
    refine va_get (D := (dC, dI)) (ci := 2) (v := .int ex) (C := R_S) (T := F_S) (N := 3) hx hb htA in_S hown hK hP 0 rfl rfl 2 (by decide) (htA _ k_16) (fun _ h9 => h9) rfl d_S_isLessThan_12 ?_
    refine lv_aload_n hx hb d_S_isLessThan_15 rfl (lv_at hl 1 rfl) ?_
    refine va_get (D := (dC, dI)) (ci := 2) (v := .int ex2) (C := R_S) (T := F_S) (N := 3) hx hb htA in_S hown hK hP 1 rfl rfl 2 (by decide) (htA _ k_16) (fun _ h9 => h9) rfl d_S_isLessThan_16 ?_
    refine lv_icmp_ge (tgt := 26) hx hb d_S_isLessThan_19 (by decide) (fun c_19 => ?_) (fun c_19 => ?_)
    · skip
      refine lv_iconst (v := 0) hx hb d_S_isLessThan_26 (by decide) ?_
      have hE : g_S_isLessThan hi ex hi2 ex2 = (false) := by clear hP hD hl hS; unfold g_S_isLessThan; (try dsimp only); rw [if_neg c_8, if_pos c_19]
      have hP9 : va_P (dC, dI) classes [(a4, .inr (2, [.long hi, .long lo, .int ex])), (a5, .inr (2, [.long hi2, .long lo2, .int ex2]))] H := by exact hP.sub [0, 1] rfl
      have hD9 : va_D A [(a4, .inr (2, [.long hi, .long lo, .int ex])), (a5, .inr (2, [.long hi2, .long lo2, .int ex2]))] := by exact hD.sub [0, 1] (by decide) rfl
      exact W.zret (v := 0) hx hb hr (by first | exact nar_b2i _ | rfl) (fun t ht hW => ⟨⟨0, (), rfl, by rw [hE]; rfl, by rw [ht]; exact hP9, hD9⟩, hS.F ht⟩) hS.2.2 d_S_isLessThan_27
    · skip
      refine lv_iconst (v := 1) hx hb d_S_isLessThan_22 (by decide) ?_
      refine lv_goto (tgt := 27) hx hb d_S_isLessThan_23 (by decide) ?_
      have hE : g_S_isLessThan hi ex hi2 ex2 = (true) := by clear hP hD hl hS; unfold g_S_isLessThan; (try dsimp only); rw [if_neg c_8, if_neg c_19]
      have hP9 : va_P (dC, dI) classes [(a4, .inr (2, [.long hi, .long lo, .int ex])), (a5, .inr (2, [.long hi2, .long lo2, .int ex2]))] H := by exact hP.sub [0, 1] rfl
      have hD9 : va_D A [(a4, .inr (2, [.long hi, .long lo, .int ex])), (a5, .inr (2, [.long hi2, .long lo2, .int ex2]))] := by exact hD.sub [0, 1] (by decide) rfl
      exact W.zret (v := 1) hx hb hr (by first | exact nar_b2i _ | rfl) (fun t ht hW => ⟨⟨1, (), rfl, by rw [hE]; rfl, by rw [ht]; exact hP9, hD9⟩, hS.F ht⟩) hS.2.2 d_S_isLessThan_27
theorem d_S_normalize_0 : decode b_S_normalize 0 = .ok (.aload_n 0, 1) := by decide +kernel
theorem d_S_normalize_1 : decode b_S_normalize 1 = .ok (.invokevirtual 45, 3) := by decide +kernel
theorem d_S_normalize_4 : decode b_S_normalize 4 = .ok (.ifCond .eq 11, 3) := by decide +kernel
theorem d_S_normalize_15 : decode b_S_normalize 15 = .ok (.iconst 0, 1) := by decide +kernel
theorem d_S_normalize_16 : decode b_S_normalize 16 = .ok (.istore_n 1, 1) := by decide +kernel
theorem d_S_normalize_17 : decode b_S_normalize 17 = .ok (.iload_n 1, 1) := by decide +kernel
theorem d_S_normalize_18 : decode b_S_normalize 18 = .ok (.sipush 128, 3) := by decide +kernel
theorem d_S_normalize_21 : decode b_S_normalize 21 = .ok (.if_icmp .ge 56, 3) := by decide +kernel
theorem d_S_normalize_24 : decode b_S_normalize 24 = .ok (.aload_n 0, 1) := by decide +kernel
theorem d_S_normalize_25 : decode b_S_normalize 25 = .ok (.getfield 9, 3) := by decide +kernel
theorem d_S_normalize_28 : decode b_S_normalize 28 = .ok (.lconst 0, 1) := by decide +kernel
theorem d_S_normalize_29 : decode b_S_normalize 29 = .ok (.lcmp, 1) := by decide +kernel
theorem d_S_normalize_30 : decode b_S_normalize 30 = .ok (.ifCond .lt 47, 3) := by decide +kernel
theorem d_S_normalize_33 : decode b_S_normalize 33 = .ok (.aload_n 0, 1) := by decide +kernel
theorem d_S_normalize_34 : decode b_S_normalize 34 = .ok (.aload_n 0, 1) := by decide +kernel
theorem d_S_normalize_35 : decode b_S_normalize 35 = .ok (.getfield 9, 3) := by decide +kernel
theorem d_S_normalize_38 : decode b_S_normalize 38 = .ok (.iconst 1, 1) := by decide +kernel
theorem d_S_normalize_39 : decode b_S_normalize 39 = .ok (.lshl, 1) := by decide +kernel
theorem d_S_normalize_40 : decode b_S_normalize 40 = .ok (.aload_n 0, 1) := by decide +kernel
theorem d_S_normalize_41 : decode b_S_normalize 41 = .ok (.getfield 15, 3) := by decide +kernel
theorem d_S_normalize_44 : decode b_S_normalize 44 = .ok (.bipush 63, 2) := by decide +kernel
theorem d_S_normalize_46 : decode b_S_normalize 46 = .ok (.lushr, 1) := by decide +kernel
theorem d_S_normalize_47 : decode b_S_normalize 47 = .ok (.lor, 1) := by decide +kernel
theorem d_S_normalize_48 : decode b_S_normalize 48 = .ok (.putfield 9, 3) := by decide +kernel
theorem d_S_normalize_51 : decode b_S_normalize 51 = .ok (.aload_n 0, 1) := by decide +kernel
theorem d_S_normalize_52 : decode b_S_normalize 52 = .ok (.dup, 1) := by decide +kernel
theorem d_S_normalize_53 : decode b_S_normalize 53 = .ok (.getfield 15, 3) := by decide +kernel
theorem d_S_normalize_56 : decode b_S_normalize 56 = .ok (.iconst 1, 1) := by decide +kernel
theorem d_S_normalize_57 : decode b_S_normalize 57 = .ok (.lshl, 1) := by decide +kernel
theorem d_S_normalize_58 : decode b_S_normalize 58 = .ok (.putfield 15, 3) := by decide +kernel
theorem d_S_normalize_61 : decode b_S_normalize 61 = .ok (.aload_n 0, 1) := by decide +kernel
theorem d_S_normalize_62 : decode b_S_normalize 62 = .ok (.dup, 1) := by decide +kernel
theorem d_S_normalize_63 : decode b_S_normalize 63 = .ok (.getfield 18, 3) := by decide +kernel
theorem d_S_normalize_66 : decode b_S_normalize 66 = .ok (.iconst 1, 1) := by decide +kernel
theorem d_S_normalize_67 : decode b_S_normalize 67 = .ok (.isub, 1) := by decide +kernel
theorem d_S_normalize_68 : decode b_S_normalize 68 = .ok (.putfield 18, 3) := by decide +kernel
theorem d_S_normalize_71 : decode b_S_normalize 71 = .ok (.iinc 1 1, 3) := by decide +kernel
theorem d_S_normalize_74 : decode b_S_normalize 74 = .ok (.goto (-57), 3) := by decide +kernel
theorem d_S_normalize_77 : decode b_S_normalize 77 = .ok (.return_, 1) := by decide +kernel
theorem d_S_normalize_7 : decode b_S_normalize 7 = .ok (.aload_n 0, 1) := by decide +kernel
theorem d_S_normalize_8 : decode b_S_normalize 8 = .ok (.sipush (-20000), 3) := by decide +kernel
theorem d_S_normalize_11 : decode b_S_normalize 11 = .ok (.putfield 18, 3) := by decide +kernel
theorem d_S_normalize_14 : decode b_S_normalize 14 = .ok (.return_, 1) := by decide +kernel
set_option maxHeartbeats 4000000 in
set_option maxRecDepth 100000 in
theorem c_S_normalize (l : Launch) (dC : Nat → ClassId) (dI : Nat → Nat → Nat) (a4 : Nat) (sz : Nat) (hi : Int64) (lo : Int64) (ex : Int32) : Met l y_S_normalize w_S_normalize ({ frames := 1, cells := 0, slots := 0, locals := 20 }) (cPc (dC, dI) [] [.ref a4] [(a4, .inr (2, [.long hi, .long lo, .int ex]))] sz) (va_Qv (fun (_ : Unit) => True) (fun _ t => va_P (dC, dI) classes [(a4, .inr (2, [.long ((g_S_normalize hi lo ex).1), .long ((g_S_normalize hi lo ex).2.1), .int ((g_S_normalize hi lo ex).2.2)]))] t.heap ∧ va_D (va_A [(a4, .inr (2, [.long hi, .long lo, .int ex]))] sz) [(a4, .inr (2, [.long ((g_S_normalize hi lo ex).1), .long ((g_S_normalize hi lo ex).2.1), .int ((g_S_normalize hi lo ex).2.2)]))]) (va_A [(a4, .inr (2, [.long hi, .long lo, .int ex]))] sz)) 0 0 (va_A [(a4, .inr (2, [.long hi, .long lo, .int ex]))] sz) := by
  refine Met.ofW (cc := b_S_normalize) (maxL := 2) (ret := none) (by decide) rfl ?_
  intro p e s m args below meth c s₁ B hml hv
  obtain ⟨rfl, hsz, hP, hK, hD0, hnw⟩ := hv
  have hx := B.exec
  have hb := B.bytes
  have hr := B.returns
  have hts := atoms_spec (ws := w_S_normalize) B.pre
  have htA : ∀ w ∈ wAll, w.before _ s = true := fun w h => hts w (List.mem_cons_of_mem _ h)
  have hown : s.vm.findClass R_S = some m.cls := findClass_of_methodNamed B.named
  have hlocks := B.notSynchronized
  subst hsz
  have hD := hD0.self (sz := s.heap.size)
  generalize hAe : va_A [(a4, .inr (2, [.long hi, .long lo, .int ex]))] s.heap.size = A at hD ⊢
  have hA : ∀ q : Nat, s.heap.size ≤ q → A q := fun q h => by rw [← hAe]; exact Or.inr h
  have hS : va_S A s.heap s.heap [] := va_S.rf
  have hP : va_P (dC, dI) classes [(a4, .inr (2, [.long hi, .long lo, .int ex]))] s.heap := hP
  obtain ⟨H, eH⟩ : ∃ z, z = s.heap := ⟨_, rfl⟩
  rw [← eH] at hP
  have hS : va_S A s.heap H [] := by rw [eH]; exact hS
  rw [← eH]
  generalize ([] : List Loc) = locs at hS ⊢
  have hl := lv_entry ([.ref a4]) (n := 2) (Nat.le_of_ble_eq_true rfl)
  rw [lg_entry_eq]
  generalize (lg_sl ([.ref a4]) ++ List.replicate (2 - (lg_sl ([.ref a4])).length) Slot.unset).toArray = ls at hl ⊢
  have hl : lv_has ls 2 [(0, .ref a4)] := hl
  refine lv_aload_n hx hb d_S_normalize_0 rfl (lv_at hl 0 rfl) ?_
  have hPc := hP.sub (ws' := [(a4, .inr (2, [.long hi, .long lo, .int ex]))]) [0] rfl
  have hDc := hD.sub (ws' := [(a4, .inr (2, [.long hi, .long lo, .int ex]))]) [0] (by decide) rfl
  have hKc := hK.sub (tys' := []) [] rfl
  have hFc := va_free (wc := [(a4, .inr (2, [.long hi, .long lo, .int ex]))]) hD hS hA [0] rfl
  refine cc_i (va_runV (As := []) (rest := []) ⟨hx, hb, hml, hown, htA⟩ (c_S_isZero l dC dI a4 H.size hi lo ex) (cwV 0 htA (gi_V k_37 k_38 k_39 k_36 (gi_code k_31)) rfl rfl rfl (by decide +kernel) ⟨Nat.le_of_ble_eq_true rfl, Nat.le_of_ble_eq_true rfl⟩) (pre_V hnw hPc hKc hDc (ci := 2) (q0 := 0) rfl rfl) rfl rfl hl.1 rfl (lv_room (Nat.le_of_ble_eq_true rfl)) d_S_normalize_1 ⟨Nat.le_of_ble_eq_true rfl, Nat.le_of_ble_eq_true rfl⟩) hS hFc hP hD [0] [] (wr := []) rfl rfl (by decide) (by decide) (fun H locs hP hD hS => ?_)
  have hP : va_P (dC, dI) classes [(a4, .inr (2, [.long hi, .long lo, .int ex]))] H := hP
  have hD : va_D A [(a4, .inr (2, [.long hi, .long lo, .int ex]))] := hD
  refine lv_if_eq (tgt := 15) hx hb d_S_normalize_4 (by decide) (fun c_4 => ?_) (fun c_4 => ?_)
  · skip
    have c_4 : ¬ (g_S_isZero hi lo) = true := b2i_z c_4
    refine lv_iconst (v := 0) hx hb d_S_normalize_15 (by decide) ?_
    refine lv_istore_n (lv' := [(1, .int 0), (0, .ref a4)]) hx hb d_S_normalize_16 rfl hl (by decide) rfl (fun ls hl => ?_)
    refine loop_cut (S := Int32 × Int64 × Int64 × Int32) nx_S_normalize_17 128 (0, hi, lo, ex) (S_normalize_end hi lo ex) 0 0 (fun (x : Int32 × Int64 × Int64 × Int32) (H : Heap) (locs : List Loc) (ls : Array Slot) => va_P (dC, dI) classes [(a4, .inr (2, [.long x.2.1, .long x.2.2.1, .int x.2.2.2]))] H ∧ va_D A [(a4, .inr (2, [.long x.2.1, .long x.2.2.1, .int x.2.2.2]))] ∧ va_S A s.heap H locs ∧ lv_has ls 2 [(0, .ref a4), (1, .int x.1)]) (fun x ls => F0 m 17 ls []) (fun x ls => F0 m 77 ls []) ?_ ?_ H locs ls ⟨hP.sub [0] rfl, hD.sub [0] (by decide) rfl, hS, lv_sub hl [1, 0] rfl⟩
    · skip
      rintro ⟨v17_0, v17_1, v17_2, v17_3⟩ hex hbk H locs ls ⟨hP, hD, hS, hl⟩
      have hP : va_P (dC, dI) classes [(a4, .inr (2, [.long v17_1, .long v17_2, .int v17_3]))] H := hP
      have hD : va_D A [(a4, .inr (2, [.long v17_1, .long v17_2, .int v17_3]))] := hD
      have hl : lv_has ls 2 [(0, .ref a4), (1, .int v17_0)] := hl
      refine lv_iload_n hx hb d_S_normalize_17 rfl (lv_at hl 1 rfl) ?_
      refine lv_sipush (v := 128) hx hb d_S_normalize_18 (by decide) ?_
      refine lv_icmp_ge (tgt := 77) hx hb d_S_normalize_21 (by decide) (fun c_21 => ?_) (fun c_21 => ?_)
      · skip
        exact hex (by clear hP hD hl hS; unfold nx_S_normalize_17; (try dsimp only); rw [if_pos c_21]) H locs ls ⟨hP.sub [0] rfl, hD.sub [0] (by decide) rfl, hS, lv_sub hl [0, 1] rfl⟩
      · skip
        refine lv_aload_n hx hb d_S_normalize_24 rfl (lv_at hl 0 rfl) ?_
        refine va_get (D := (dC, dI)) (ci := 2) (v := .long v17_1) (C := R_S) (T := F_S) (N := 3) hx hb htA in_S hown hK hP 0 rfl rfl 0 (by decide) (htA _ k_14) (fun _ h9 => h9) rfl d_S_normalize_25 ?_
        refine lv_lconst (v := 0) hx hb d_S_normalize_28 (by decide) ?_
        refine W.lcmp hx hb d_S_normalize_29 ?_
        refine lv_if_lt (tgt := 77) hx hb d_S_normalize_30 (by decide) (fun c_30 => ?_) (fun c_30 => ?_)
        · skip
          have c_30 : v17_1 < 0 := (lg_cmp_lt _ _).mp c_30
          exact hex (by clear hP hD hl hS; unfold nx_S_normalize_17; (try dsimp only); rw [if_neg c_21, if_pos c_30]) H locs ls ⟨hP.sub [0] rfl, hD.sub [0] (by decide) rfl, hS, lv_sub hl [0, 1] rfl⟩
        · skip
          have c_30 : ¬ v17_1 < 0 := fun h9 => c_30 ((lg_cmp_lt _ _).mpr h9)
          refine lv_aload_n hx hb d_S_normalize_33 rfl (lv_at hl 0 rfl) ?_
          refine lv_aload_n hx hb d_S_normalize_34 rfl (lv_at hl 0 rfl) ?_
          refine va_get (D := (dC, dI)) (ci := 2) (v := .long v17_1) (C := R_S) (T := F_S) (N := 3) hx hb htA in_S hown hK hP 0 rfl rfl 0 (by decide) (htA _ k_14) (fun _ h9 => h9) rfl d_S_normalize_35 ?_
          refine lv_iconst (v := 1) hx hb d_S_normalize_38 (by decide) ?_
          refine lv_lshl (v := (sL v17_1 1)) hx hb d_S_normalize_39 rfl ?_
          refine lv_aload_n hx hb d_S_normalize_40 rfl (lv_at hl 0 rfl) ?_
          refine va_get (D := (dC, dI)) (ci := 2) (v := .long v17_2) (C := R_S) (T := F_S) (N := 3) hx hb htA in_S hown hK hP 0 rfl rfl 1 (by decide) (htA _ k_15) (fun _ h9 => h9) rfl d_S_normalize_41 ?_
          refine lv_bipush (v := 63) hx hb d_S_normalize_44 (by decide) ?_
          refine lv_lushr (v := (uR v17_2 63)) hx hb d_S_normalize_46 rfl ?_
          refine lv_lor hx hb d_S_normalize_47 ?_
          refine va_put (D := (dC, dI)) (ci := 2) (v := .long ((sL v17_1 1) ||| (uR v17_2 63))) (ty := .long) (C := R_S) (T := F_S) (N := 3) hx hb htA in_S t_S t_S_ok n_S hown hK hP hD hS 0 rfl rfl 0 (by decide) (htA _ k_14) (fun _ h9 => h9) rfl (by decide +kernel) rfl rfl (Nat.le_of_ble_eq_true rfl) d_S_normalize_48 (fun H locs hP hD hS => ?_)
          have hP : va_P (dC, dI) classes [(a4, .inr (2, [.long ((sL v17_1 1) ||| (uR v17_2 63)), .long v17_2, .int v17_3]))] H := hP
          have hD : va_D A [(a4, .inr (2, [.long ((sL v17_1 1) ||| (uR v17_2 63)), .long v17_2, .int v17_3]))] := hD
          refine lv_aload_n hx hb d_S_normalize_51 rfl (lv_at hl 0 rfl) ?_
          refine lv_dup hx hb d_S_normalize_52 rfl ?_
          refine va_get (D := (dC, dI)) (ci := 2) (v := .long v17_2) (C := R_S) (T := F_S) (N := 3) hx hb htA in_S hown hK hP 0 rfl rfl 1 (by decide) (htA _ k_15) (fun _ h9 => h9) rfl d_S_normalize_53 ?_
          refine lv_iconst (v := 1) hx hb d_S_normalize_56 (by decide) ?_
          refine lv_lshl (v := (sL v17_2 1)) hx hb d_S_normalize_57 rfl ?_
          refine va_put (D := (dC, dI)) (ci := 2) (v := .long (sL v17_2 1)) (ty := .long) (C := R_S) (T := F_S) (N := 3) hx hb htA in_S t_S t_S_ok n_S hown hK hP hD hS 0 rfl rfl 1 (by decide) (htA _ k_15) (fun _ h9 => h9) rfl (by decide +kernel) rfl rfl (Nat.le_of_ble_eq_true rfl) d_S_normalize_58 (fun H locs hP hD hS => ?_)
          have hP : va_P (dC, dI) classes [(a4, .inr (2, [.long ((sL v17_1 1) ||| (uR v17_2 63)), .long (sL v17_2 1), .int v17_3]))] H := hP
          have hD : va_D A [(a4, .inr (2, [.long ((sL v17_1 1) ||| (uR v17_2 63)), .long (sL v17_2 1), .int v17_3]))] := hD
          refine lv_aload_n hx hb d_S_normalize_61 rfl (lv_at hl 0 rfl) ?_
          refine lv_dup hx hb d_S_normalize_62 rfl ?_
          refine va_get (D := (dC, dI)) (ci := 2) (v := .int v17_3) (C := R_S) (T := F_S) (N := 3) hx hb htA in_S hown hK hP 0 rfl rfl 2 (by decide) (htA _ k_16) (fun _ h9 => h9) rfl d_S_normalize_63 ?_
          refine lv_iconst (v := 1) hx hb d_S_normalize_66 (by decide) ?_
          refine lv_isub hx hb d_S_normalize_67 ?_
          refine va_put (D := (dC, dI)) (ci := 2) (v := .int (v17_3 - 1)) (ty := .int) (C := R_S) (T := F_S) (N := 3) hx hb htA in_S t_S t_S_ok n_S hown hK hP hD hS 0 rfl rfl 2 (by decide) (htA _ k_16) (fun _ h9 => h9) rfl (by decide +kernel) rfl rfl (Nat.le_of_ble_eq_true rfl) d_S_normalize_68 (fun H locs hP hD hS => ?_)
          have hP : va_P (dC, dI) classes [(a4, .inr (2, [.long ((sL v17_1 1) ||| (uR v17_2 63)), .long (sL v17_2 1), .int (v17_3 - 1)]))] H := hP
          have hD : va_D A [(a4, .inr (2, [.long ((sL v17_1 1) ||| (uR v17_2 63)), .long (sL v17_2 1), .int (v17_3 - 1)]))] := hD
          refine lv_iinc (v := (v17_0 + 1)) (lv' := [(1, .int (v17_0 + 1)), (0, .ref a4)]) hx hb d_S_normalize_71 hl (k := 1) rfl rfl (by decide) rfl (fun ls hl => ?_)
          refine lv_goto (tgt := 17) hx hb d_S_normalize_74 (by decide) ?_
          exact hbk ((v17_0 + 1), ((sL v17_1 1) ||| (uR v17_2 63)), (sL v17_2 1), (v17_3 - 1)) (by clear hP hD hl hS; unfold nx_S_normalize_17; (try dsimp only); rw [if_neg c_21, if_neg c_30]) H locs ls ⟨hP.sub [0] rfl, hD.sub [0] (by decide) rfl, hS, lv_sub hl [1, 0] rfl⟩
    · skip
      rintro ⟨v17_0, v17_1, v17_2, v17_3⟩ H locs ls ev ⟨hP, hD, hS, hl⟩
      have ev17_0 : (lrun nx_S_normalize_17 128 (0, hi, lo, ex)).1 = v17_0 := by rw [← ev]
      have ev17_1 : (lrun nx_S_normalize_17 128 (0, hi, lo, ex)).2.1 = v17_1 := by rw [← ev]
      have ev17_2 : (lrun nx_S_normalize_17 128 (0, hi, lo, ex)).2.2.1 = v17_2 := by rw [← ev]
      have ev17_3 : (lrun nx_S_normalize_17 128 (0, hi, lo, ex)).2.2.2 = v17_3 := by rw [← ev]
      clear ev
      have hP : va_P (dC, dI) classes [(a4, .inr (2, [.long v17_1, .long v17_2, .int v17_3]))] H := hP
      have hD : va_D A [(a4, .inr (2, [.long v17_1, .long v17_2, .int v17_3]))] := hD
      have hl : lv_has ls 2 [(0, .ref a4), (1, .int v17_0)] := hl
      have hE : g_S_normalize hi lo ex = (v17_1, v17_2, v17_3) := by clear hP hD hl hS; subst ev17_3; subst ev17_2; subst ev17_1; subst ev17_0; unfold g_S_normalize; (try dsimp only); rw [if_neg c_4]
      have hP9 : va_P (dC, dI) classes [(a4, .inr (2, [.long ((g_S_normalize hi lo ex).1), .long ((g_S_normalize hi lo ex).2.1), .int ((g_S_normalize hi lo ex).2.2)]))] H := by rw [hE]; exact hP.sub [0] rfl
      have hD9 : va_D A [(a4, .inr (2, [.long ((g_S_normalize hi lo ex).1), .long ((g_S_normalize hi lo ex).2.1), .int ((g_S_normalize hi lo ex).2.2)]))] := by rw [hE]; exact hD.sub [0] (by decide) rfl
      exact W.vret hx hb hr (fun t ht hW => ⟨⟨(), rfl, trivial, by rw [ht]; exact hP9, hD9⟩, hS.F ht⟩) hS.2.2 d_S_normalize_77
  · skip
    have c_4 : (g_S_isZero hi lo) = true := b2i_nz c_4
    refine lv_aload_n hx hb d_S_normalize_7 rfl (lv_at hl 0 rfl) ?_
    refine lv_sipush (v := (-20000)) hx hb d_S_normalize_8 (by decide) ?_
    refine va_put (D := (dC, dI)) (ci := 2) (v := .int (-20000)) (ty := .int) (C := R_S) (T := F_S) (N := 3) hx hb htA in_S t_S t_S_ok n_S hown hK hP hD hS 0 rfl rfl 2 (by decide) (htA _ k_16) (fun _ h9 => h9) rfl (by decide +kernel) rfl rfl (Nat.le_of_ble_eq_true rfl) d_S_normalize_11 (fun H locs hP hD hS => ?_)
    have hP : va_P (dC, dI) classes [(a4, .inr (2, [.long hi, .long lo, .int (-20000)]))] H := hP
    have hD : va_D A [(a4, .inr (2, [.long hi, .long lo, .int (-20000)]))] := hD
    have hE : g_S_normalize hi lo ex = (hi, lo, (-20000)) := by clear hP hD hl hS; unfold g_S_normalize; (try dsimp only); rw [if_pos c_4]
    have hP9 : va_P (dC, dI) classes [(a4, .inr (2, [.long ((g_S_normalize hi lo ex).1), .long ((g_S_normalize hi lo ex).2.1), .int ((g_S_normalize hi lo ex).2.2)]))] H := by rw [hE]; exact hP.sub [0] rfl
    have hD9 : va_D A [(a4, .inr (2, [.long ((g_S_normalize hi lo ex).1), .long ((g_S_normalize hi lo ex).2.1), .int ((g_S_normalize hi lo ex).2.2)]))] := by rw [hE]; exact hD.sub [0] (by decide) rfl
    exact W.vret hx hb hr (fun t ht hW => ⟨⟨(), rfl, trivial, by rw [ht]; exact hP9, hD9⟩, hS.F ht⟩) hS.2.2 d_S_normalize_14
theorem d_S_take_0 : decode b_S_take 0 = .ok (.aload_n 0, 1) := by decide +kernel
theorem d_S_take_1 : decode b_S_take 1 = .ok (.aload_n 1, 1) := by decide +kernel
theorem d_S_take_2 : decode b_S_take 2 = .ok (.getfield 22, 3) := by decide +kernel
theorem d_S_take_5 : decode b_S_take 5 = .ok (.putfield 9, 3) := by decide +kernel
theorem d_S_take_8 : decode b_S_take 8 = .ok (.aload_n 0, 1) := by decide +kernel
theorem d_S_take_9 : decode b_S_take 9 = .ok (.lconst 0, 1) := by decide +kernel
theorem d_S_take_10 : decode b_S_take 10 = .ok (.putfield 15, 3) := by decide +kernel
theorem d_S_take_13 : decode b_S_take 13 = .ok (.aload_n 0, 1) := by decide +kernel
theorem d_S_take_14 : decode b_S_take 14 = .ok (.aload_n 1, 1) := by decide +kernel
theorem d_S_take_15 : decode b_S_take 15 = .ok (.getfield 27, 3) := by decide +kernel
theorem d_S_take_18 : decode b_S_take 18 = .ok (.iconst 1, 1) := by decide +kernel
theorem d_S_take_19 : decode b_S_take 19 = .ok (.invokestatic 30, 3) := by decide +kernel
theorem d_S_take_22 : decode b_S_take 22 = .ok (.sipush 16446, 3) := by decide +kernel
theorem d_S_take_25 : decode b_S_take 25 = .ok (.isub, 1) := by decide +kernel
theorem d_S_take_26 : decode b_S_take 26 = .ok (.putfield 18, 3) := by decide +kernel
theorem d_S_take_29 : decode b_S_take 29 = .ok (.aload_n 0, 1) := by decide +kernel
theorem d_S_take_30 : decode b_S_take 30 = .ok (.invokevirtual 36, 3) := by decide +kernel
theorem d_S_take_33 : decode b_S_take 33 = .ok (.return_, 1) := by decide +kernel
set_option maxHeartbeats 4000000 in
set_option maxRecDepth 100000 in
theorem c_S_take (l : Launch) (dC : Nat → ClassId) (dI : Nat → Nat → Nat) (a4 : Nat) (a1 : Nat) (sz : Nat) (hi : Int64) (lo : Int64) (ex : Int32) (n1 : Bool) (p1 : Int32) (f1 : Int64) : Met l y_S_take w_S_take ({ frames := 2, cells := 0, slots := 0, locals := 41 }) (cPc (dC, dI) [] [.ref a4, .ref a1] [(a4, .inr (2, [.long hi, .long lo, .int ex])), (a1, .inr (1, [.int (b2i n1), .int p1, .long f1]))] sz) (va_Qv (fun (_ : Unit) => True) (fun _ t => va_P (dC, dI) classes [(a4, .inr (2, [.long ((g_S_take p1 f1).1), .long ((g_S_take p1 f1).2.1), .int ((g_S_take p1 f1).2.2)])), (a1, .inr (1, [.int (b2i n1), .int p1, .long f1]))] t.heap ∧ va_D (va_A [(a4, .inr (2, [.long hi, .long lo, .int ex])), (a1, .inr (1, [.int (b2i n1), .int p1, .long f1]))] sz) [(a4, .inr (2, [.long ((g_S_take p1 f1).1), .long ((g_S_take p1 f1).2.1), .int ((g_S_take p1 f1).2.2)])), (a1, .inr (1, [.int (b2i n1), .int p1, .long f1]))]) (va_A [(a4, .inr (2, [.long hi, .long lo, .int ex])), (a1, .inr (1, [.int (b2i n1), .int p1, .long f1]))] sz)) 0 0 (va_A [(a4, .inr (2, [.long hi, .long lo, .int ex])), (a1, .inr (1, [.int (b2i n1), .int p1, .long f1]))] sz) := by
  refine Met.ofW (cc := b_S_take) (maxL := 2) (ret := none) (by decide) rfl ?_
  intro p e s m args below meth c s₁ B hml hv
  obtain ⟨rfl, hsz, hP, hK, hD0, hnw⟩ := hv
  have hx := B.exec
  have hb := B.bytes
  have hr := B.returns
  have hts := atoms_spec (ws := w_S_take) B.pre
  have htA : ∀ w ∈ wAll, w.before _ s = true := fun w h => hts w (List.mem_cons_of_mem _ h)
  have hown : s.vm.findClass R_S = some m.cls := findClass_of_methodNamed B.named
  have hlocks := B.notSynchronized
  subst hsz
  have hD := hD0.self (sz := s.heap.size)
  generalize hAe : va_A [(a4, .inr (2, [.long hi, .long lo, .int ex])), (a1, .inr (1, [.int (b2i n1), .int p1, .long f1]))] s.heap.size = A at hD ⊢
  have hA : ∀ q : Nat, s.heap.size ≤ q → A q := fun q h => by rw [← hAe]; exact Or.inr h
  have hS : va_S A s.heap s.heap [] := va_S.rf
  have hP : va_P (dC, dI) classes [(a4, .inr (2, [.long hi, .long lo, .int ex])), (a1, .inr (1, [.int (b2i n1), .int p1, .long f1]))] s.heap := hP
  obtain ⟨H, eH⟩ : ∃ z, z = s.heap := ⟨_, rfl⟩
  rw [← eH] at hP
  have hS : va_S A s.heap H [] := by rw [eH]; exact hS
  rw [← eH]
  generalize ([] : List Loc) = locs at hS ⊢
  have hl := lv_entry ([.ref a4, .ref a1]) (n := 2) (Nat.le_of_ble_eq_true rfl)
  rw [lg_entry_eq]
  generalize (lg_sl ([.ref a4, .ref a1]) ++ List.replicate (2 - (lg_sl ([.ref a4, .ref a1])).length) Slot.unset).toArray = ls at hl ⊢
  have hl : lv_has ls 2 [(0, .ref a4), (1, .ref a1)] := hl
  refine lv_aload_n hx hb d_S_take_0 rfl (lv_at hl 0 rfl) ?_
  refine lv_aload_n hx hb d_S_take_1 rfl (lv_at hl 1 rfl) ?_
  refine va_getN (D := (dC, dI)) (ci := 1) (v := .long f1) (C := R_R) (T := F_R) (N := 3) hx hb htA in_R hown hK hP 1 rfl rfl 2 (by decide) (va_Nw.use rfl (hnw _ n_0)) (fun _ h9 => h9) rfl d_S_take_2 ?_
  refine va_put (D := (dC, dI)) (ci := 2) (v := .long f1) (ty := .long) (C := R_S) (T := F_S) (N := 3) hx hb htA in_S t_S t_S_ok n_S hown hK hP hD hS 0 rfl rfl 0 (by decide) (htA _ k_14) (fun _ h9 => h9) rfl (by decide +kernel) rfl rfl (Nat.le_of_ble_eq_true rfl) d_S_take_5 (fun H locs hP hD hS => ?_)
  have hP : va_P (dC, dI) classes [(a4, .inr (2, [.long f1, .long lo, .int ex])), (a1, .inr (1, [.int (b2i n1), .int p1, .long f1]))] H := hP
  have hD : va_D A [(a4, .inr (2, [.long f1, .long lo, .int ex])), (a1, .inr (1, [.int (b2i n1), .int p1, .long f1]))] := hD
  refine lv_aload_n hx hb d_S_take_8 rfl (lv_at hl 0 rfl) ?_
  refine lv_lconst (v := 0) hx hb d_S_take_9 (by decide) ?_
  refine va_put (D := (dC, dI)) (ci := 2) (v := .long 0) (ty := .long) (C := R_S) (T := F_S) (N := 3) hx hb htA in_S t_S t_S_ok n_S hown hK hP hD hS 0 rfl rfl 1 (by decide) (htA _ k_15) (fun _ h9 => h9) rfl (by decide +kernel) rfl rfl (Nat.le_of_ble_eq_true rfl) d_S_take_10 (fun H locs hP hD hS => ?_)
  have hP : va_P (dC, dI) classes [(a4, .inr (2, [.long f1, .long 0, .int ex])), (a1, .inr (1, [.int (b2i n1), .int p1, .long f1]))] H := hP
  have hD : va_D A [(a4, .inr (2, [.long f1, .long 0, .int ex])), (a1, .inr (1, [.int (b2i n1), .int p1, .long f1]))] := hD
  refine lv_aload_n hx hb d_S_take_13 rfl (lv_at hl 0 rfl) ?_
  refine lv_aload_n hx hb d_S_take_14 rfl (lv_at hl 1 rfl) ?_
  refine va_getN (D := (dC, dI)) (ci := 1) (v := .int p1) (C := R_R) (T := F_R) (N := 3) hx hb htA in_R hown hK hP 1 rfl rfl 1 (by decide) (va_Nw.use rfl (hnw _ n_1)) (fun _ h9 => h9) rfl d_S_take_15 ?_
  refine lv_iconst (v := 1) hx hb d_S_take_18 (by decide) ?_
  refine va_mmax hx hb (hml.trans hl.1.symm) hown (htA _ k_41) (htA _ k_42) (htA _ k_43) (htA _ k_44) (Nat.le_of_ble_eq_true rfl) (Nat.le_of_ble_eq_true rfl) (Nat.le_of_ble_eq_true rfl) (Nat.le_of_ble_eq_true rfl) d_S_take_19 ?_
  refine lv_sipush (v := 16446) hx hb d_S_take_22 (by decide) ?_
  refine lv_isub hx hb d_S_take_25 ?_
  refine va_put (D := (dC, dI)) (ci := 2) (v := .int ((if p1 < 1 then 1 else p1) - 16446)) (ty := .int) (C := R_S) (T := F_S) (N := 3) hx hb htA in_S t_S t_S_ok n_S hown hK hP hD hS 0 rfl rfl 2 (by decide) (htA _ k_16) (fun _ h9 => h9) rfl (by decide +kernel) rfl rfl (Nat.le_of_ble_eq_true rfl) d_S_take_26 (fun H locs hP hD hS => ?_)
  have hP : va_P (dC, dI) classes [(a4, .inr (2, [.long f1, .long 0, .int ((if p1 < 1 then 1 else p1) - 16446)])), (a1, .inr (1, [.int (b2i n1), .int p1, .long f1]))] H := hP
  have hD : va_D A [(a4, .inr (2, [.long f1, .long 0, .int ((if p1 < 1 then 1 else p1) - 16446)])), (a1, .inr (1, [.int (b2i n1), .int p1, .long f1]))] := hD
  refine lv_aload_n hx hb d_S_take_29 rfl (lv_at hl 0 rfl) ?_
  have hPc := hP.sub (ws' := [(a4, .inr (2, [.long f1, .long 0, .int ((if p1 < 1 then 1 else p1) - 16446)]))]) [0] rfl
  have hDc := hD.sub (ws' := [(a4, .inr (2, [.long f1, .long 0, .int ((if p1 < 1 then 1 else p1) - 16446)]))]) [0] (by decide) rfl
  have hKc := hK.sub (tys' := []) [] rfl
  have hFc := va_free (wc := [(a4, .inr (2, [.long f1, .long 0, .int ((if p1 < 1 then 1 else p1) - 16446)]))]) hD hS hA [0] rfl
  refine cc_v (va_runV (As := []) (rest := []) ⟨hx, hb, hml, hown, htA⟩ (c_S_normalize l dC dI a4 H.size f1 0 ((if p1 < 1 then 1 else p1) - 16446)) (cwV 0 htA (gi_V k_45 k_46 k_47 k_36 (gi_code k_40)) rfl rfl rfl (by decide +kernel) ⟨Nat.le_of_ble_eq_true rfl, Nat.le_of_ble_eq_true rfl⟩) (pre_V hnw hPc hKc hDc (ci := 2) (q0 := 0) rfl rfl) rfl rfl hl.1 rfl (lv_room (Nat.le_of_ble_eq_true rfl)) d_S_take_30 ⟨Nat.le_of_ble_eq_true rfl, Nat.le_of_ble_eq_true rfl⟩) hS hFc hP hD [0] [1] (wr := [(a1, .inr (1, [.int (b2i n1), .int p1, .long f1]))]) rfl rfl (by decide) (by decide) (fun H locs hP hD hS => ?_)
  obtain ⟨z30, ez30⟩ : ∃ z, g_S_normalize f1 0 ((if p1 < 1 then 1 else p1) - 16446) = z := ⟨_, rfl⟩
  rw [ez30] at hP hD
  have hP : va_P (dC, dI) classes [(a1, .inr (1, [.int (b2i n1), .int p1, .long f1])), (a4, .inr (2, [.long z30.1, .long z30.2.1, .int z30.2.2]))] H := hP
  have hD : va_D A [(a1, .inr (1, [.int (b2i n1), .int p1, .long f1])), (a4, .inr (2, [.long z30.1, .long z30.2.1, .int z30.2.2]))] := hD
  have hE : g_S_take p1 f1 = (z30.1, z30.2.1, z30.2.2) := by clear hP hD hl hS; subst ez30; unfold g_S_take; rfl
  have hP9 : va_P (dC, dI) classes [(a4, .inr (2, [.long ((g_S_take p1 f1).1), .long ((g_S_take p1 f1).2.1), .int ((g_S_take p1 f1).2.2)])), (a1, .inr (1, [.int (b2i n1), .int p1, .long f1]))] H := by rw [hE]; exact hP.sub [1, 0] rfl
  have hD9 : va_D A [(a4, .inr (2, [.long ((g_S_take p1 f1).1), .long ((g_S_take p1 f1).2.1), .int ((g_S_take p1 f1).2.2)])), (a1, .inr (1, [.int (b2i n1), .int p1, .long f1]))] := by rw [hE]; exact hD.sub [1, 0] (by decide) rfl
  exact W.vret hx hb hr (fun t ht hW => ⟨⟨(), rfl, trivial, by rw [ht]; exact hP9, hD9⟩, hS.F ht⟩) hS.2.2 d_S_take_33
theorem d_S_shiftRight_0 : decode b_S_shiftRight 0 = .ok (.iload_n 1, 1) := by decide +kernel
theorem d_S_shiftRight_1 : decode b_S_shiftRight 1 = .ok (.sipush 128, 3) := by decide +kernel
theorem d_S_shiftRight_4 : decode b_S_shiftRight 4 = .ok (.invokestatic 49, 3) := by decide +kernel
theorem d_S_shiftRight_7 : decode b_S_shiftRight 7 = .ok (.istore_n 2, 1) := by decide +kernel
theorem d_S_shiftRight_8 : decode b_S_shiftRight 8 = .ok (.iconst 0, 1) := by decide +kernel
theorem d_S_shiftRight_9 : decode b_S_shiftRight 9 = .ok (.istore_n 3, 1) := by decide +kernel
theorem d_S_shiftRight_10 : decode b_S_shiftRight 10 = .ok (.iload_n 3, 1) := by decide +kernel
theorem d_S_shiftRight_11 : decode b_S_shiftRight 11 = .ok (.iload_n 2, 1) := by decide +kernel
theorem d_S_shiftRight_12 : decode b_S_shiftRight 12 = .ok (.if_icmp .ge 44, 3) := by decide +kernel
theorem d_S_shiftRight_15 : decode b_S_shiftRight 15 = .ok (.aload_n 0, 1) := by decide +kernel
theorem d_S_shiftRight_16 : decode b_S_shiftRight 16 = .ok (.aload_n 0, 1) := by decide +kernel
theorem d_S_shiftRight_17 : decode b_S_shiftRight 17 = .ok (.getfield 9, 3) := by decide +kernel
theorem d_S_shiftRight_20 : decode b_S_shiftRight 20 = .ok (.bipush 63, 2) := by decide +kernel
theorem d_S_shiftRight_22 : decode b_S_shiftRight 22 = .ok (.lshl, 1) := by decide +kernel
theorem d_S_shiftRight_23 : decode b_S_shiftRight 23 = .ok (.aload_n 0, 1) := by decide +kernel
theorem d_S_shiftRight_24 : decode b_S_shiftRight 24 = .ok (.getfield 15, 3) := by decide +kernel
theorem d_S_shiftRight_27 : decode b_S_shiftRight 27 = .ok (.iconst 1, 1) := by decide +kernel
theorem d_S_shiftRight_28 : decode b_S_shiftRight 28 = .ok (.lushr, 1) := by decide +kernel
theorem d_S_shiftRight_29 : decode b_S_shiftRight 29 = .ok (.lor, 1) := by decide +kernel
theorem d_S_shiftRight_30 : decode b_S_shiftRight 30 = .ok (.aload_n 0, 1) := by decide +kernel
theorem d_S_shiftRight_31 : decode b_S_shiftRight 31 = .ok (.getfield 15, 3) := by decide +kernel
theorem d_S_shiftRight_34 : decode b_S_shiftRight 34 = .ok (.lconst 1, 1) := by decide +kernel
theorem d_S_shiftRight_35 : decode b_S_shiftRight 35 = .ok (.land, 1) := by decide +kernel
theorem d_S_shiftRight_36 : decode b_S_shiftRight 36 = .ok (.lor, 1) := by decide +kernel
theorem d_S_shiftRight_37 : decode b_S_shiftRight 37 = .ok (.putfield 15, 3) := by decide +kernel
theorem d_S_shiftRight_40 : decode b_S_shiftRight 40 = .ok (.aload_n 0, 1) := by decide +kernel
theorem d_S_shiftRight_41 : decode b_S_shiftRight 41 = .ok (.dup, 1) := by decide +kernel
theorem d_S_shiftRight_42 : decode b_S_shiftRight 42 = .ok (.getfield 9, 3) := by decide +kernel
theorem d_S_shiftRight_45 : decode b_S_shiftRight 45 = .ok (.iconst 1, 1) := by decide +kernel
theorem d_S_shiftRight_46 : decode b_S_shiftRight 46 = .ok (.lushr, 1) := by decide +kernel
theorem d_S_shiftRight_47 : decode b_S_shiftRight 47 = .ok (.putfield 9, 3) := by decide +kernel
theorem d_S_shiftRight_50 : decode b_S_shiftRight 50 = .ok (.iinc 3 1, 3) := by decide +kernel
theorem d_S_shiftRight_53 : decode b_S_shiftRight 53 = .ok (.goto (-43), 3) := by decide +kernel
theorem d_S_shiftRight_56 : decode b_S_shiftRight 56 = .ok (.aload_n 0, 1) := by decide +kernel
theorem d_S_shiftRight_57 : decode b_S_shiftRight 57 = .ok (.dup, 1) := by decide +kernel
theorem d_S_shiftRight_58 : decode b_S_shiftRight 58 = .ok (.getfield 18, 3) := by decide +kernel
theorem d_S_shiftRight_61 : decode b_S_shiftRight 61 = .ok (.iload_n 1, 1) := by decide +kernel
theorem d_S_shiftRight_62 : decode b_S_shiftRight 62 = .ok (.iadd, 1) := by decide +kernel
theorem d_S_shiftRight_63 : decode b_S_shiftRight 63 = .ok (.putfield 18, 3) := by decide +kernel
theorem d_S_shiftRight_66 : decode b_S_shiftRight 66 = .ok (.return_, 1) := by decide +kernel
set_option maxHeartbeats 4000000 in
set_option maxRecDepth 100000 in
theorem c_S_shiftRight (l : Launch) (dC : Nat → ClassId) (dI : Nat → Nat → Nat) (a4 : Nat) (sz : Nat) (hi : Int64) (lo : Int64) (ex : Int32) (ipl : Int32) : Met l y_S_shiftRight w_S_shiftRight ({ frames := 1, cells := 0, slots := 0, locals := 13 }) (cPc (dC, dI) [] [.ref a4, .int ipl] [(a4, .inr (2, [.long hi, .long lo, .int ex]))] sz) (va_Qv (fun (_ : Unit) => True) (fun _ t => va_P (dC, dI) classes [(a4, .inr (2, [.long ((g_S_shiftRight hi lo ex ipl).1), .long ((g_S_shiftRight hi lo ex ipl).2.1), .int ((g_S_shiftRight hi lo ex ipl).2.2)]))] t.heap ∧ va_D (va_A [(a4, .inr (2, [.long hi, .long lo, .int ex]))] sz) [(a4, .inr (2, [.long ((g_S_shiftRight hi lo ex ipl).1), .long ((g_S_shiftRight hi lo ex ipl).2.1), .int ((g_S_shiftRight hi lo ex ipl).2.2)]))]) (va_A [(a4, .inr (2, [.long hi, .long lo, .int ex]))] sz)) 0 0 (va_A [(a4, .inr (2, [.long hi, .long lo, .int ex]))] sz) := by
  refine Met.ofW (cc := b_S_shiftRight) (maxL := 4) (ret := none) (by decide) rfl ?_
  intro p e s m args below meth c s₁ B hml hv
  obtain ⟨rfl, hsz, hP, hK, hD0, hnw⟩ := hv
  have hx := B.exec
  have hb := B.bytes
  have hr := B.returns
  have hts := atoms_spec (ws := w_S_shiftRight) B.pre
  have htA : ∀ w ∈ wAll, w.before _ s = true := fun w h => hts w (List.mem_cons_of_mem _ h)
  have hown : s.vm.findClass R_S = some m.cls := findClass_of_methodNamed B.named
  have hlocks := B.notSynchronized
  subst hsz
  have hD := hD0.self (sz := s.heap.size)
  generalize hAe : va_A [(a4, .inr (2, [.long hi, .long lo, .int ex]))] s.heap.size = A at hD ⊢
  have hA : ∀ q : Nat, s.heap.size ≤ q → A q := fun q h => by rw [← hAe]; exact Or.inr h
  have hS : va_S A s.heap s.heap [] := va_S.rf
  have hP : va_P (dC, dI) classes [(a4, .inr (2, [.long hi, .long lo, .int ex]))] s.heap := hP
  obtain ⟨H, eH⟩ : ∃ z, z = s.heap := ⟨_, rfl⟩
  rw [← eH] at hP
  have hS : va_S A s.heap H [] := by rw [eH]; exact hS
  rw [← eH]
  generalize ([] : List Loc) = locs at hS ⊢
  have hl := lv_entry ([.ref a4, .int ipl]) (n := 4) (Nat.le_of_ble_eq_true rfl)
  rw [lg_entry_eq]
  generalize (lg_sl ([.ref a4, .int ipl]) ++ List.replicate (4 - (lg_sl ([.ref a4, .int ipl])).length) Slot.unset).toArray = ls at hl ⊢
  have hl : lv_has ls 4 [(0, .ref a4), (1, .int ipl)] := hl
  refine lv_iload_n hx hb d_S_shiftRight_0 rfl (lv_at hl 1 rfl) ?_
  refine lv_sipush (v := 128) hx hb d_S_shiftRight_1 (by decide) ?_
  refine va_mmin hx hb (hml.trans hl.1.symm) hown (htA _ k_49) (htA _ k_50) (htA _ k_43) (htA _ k_51) (Nat.le_of_ble_eq_true rfl) (Nat.le_of_ble_eq_true rfl) (Nat.le_of_ble_eq_true rfl) (Nat.le_of_ble_eq_true rfl) d_S_shiftRight_4 ?_
  refine lv_istore_n (lv' := [(2, .int (if 128 < ipl then 128 else ipl)), (0, .ref a4), (1, .int ipl)]) hx hb d_S_shiftRight_7 rfl hl (by decide) rfl (fun ls hl => ?_)
  refine lv_iconst (v := 0) hx hb d_S_shiftRight_8 (by decide) ?_
  refine lv_istore_n (lv' := [(3, .int 0), (2, .int (if 128 < ipl then 128 else ipl)), (0, .ref a4), (1, .int ipl)]) hx hb d_S_shiftRight_9 rfl hl (by decide) rfl (fun ls hl => ?_)
  refine loop_cut (S := Int32 × Int64 × Int64) (nx_S_shiftRight_10 ipl) 128 (0, hi, lo) (S_shiftRight_end ipl hi lo) 0 0 (fun (x : Int32 × Int64 × Int64) (H : Heap) (locs : List Loc) (ls : Array Slot) => va_P (dC, dI) classes [(a4, .inr (2, [.long x.2.1, .long x.2.2, .int ex]))] H ∧ va_D A [(a4, .inr (2, [.long x.2.1, .long x.2.2, .int ex]))] ∧ va_S A s.heap H locs ∧ lv_has ls 4 [(0, .ref a4), (1, .int ipl), (2, .int (if 128 < ipl then 128 else ipl)), (3, .int x.1)]) (fun x ls => F0 m 10 ls []) (fun x ls => F0 m 56 ls []) ?_ ?_ H locs ls ⟨hP.sub [0] rfl, hD.sub [0] (by decide) rfl, hS, lv_sub hl [2, 3, 1, 0] rfl⟩
  · skip
    rintro ⟨v10_0, v10_1, v10_2⟩ hex hbk H locs ls ⟨hP, hD, hS, hl⟩
    have hP : va_P (dC, dI) classes [(a4, .inr (2, [.long v10_1, .long v10_2, .int ex]))] H := hP
    have hD : va_D A [(a4, .inr (2, [.long v10_1, .long v10_2, .int ex]))] := hD
    have hl : lv_has ls 4 [(0, .ref a4), (1, .int ipl), (2, .int (if 128 < ipl then 128 else ipl)), (3, .int v10_0)] := hl
    refine lv_iload_n hx hb d_S_shiftRight_10 rfl (lv_at hl 3 rfl) ?_
    refine lv_iload_n hx hb d_S_shiftRight_11 rfl (lv_at hl 2 rfl) ?_
    refine lv_icmp_ge (tgt := 56) hx hb d_S_shiftRight_12 (by decide) (fun c_12 => ?_) (fun c_12 => ?_)
    · skip
      exact hex (by clear hP hD hl hS; unfold nx_S_shiftRight_10; (try dsimp only); rw [if_pos c_12]) H locs ls ⟨hP.sub [0] rfl, hD.sub [0] (by decide) rfl, hS, lv_sub hl [0, 1, 2, 3] rfl⟩
    · skip
      refine lv_aload_n hx hb d_S_shiftRight_15 rfl (lv_at hl 0 rfl) ?_
      refine lv_aload_n hx hb d_S_shiftRight_16 rfl (lv_at hl 0 rfl) ?_
      refine va_get (D := (dC, dI)) (ci := 2) (v := .long v10_1) (C := R_S) (T := F_S) (N := 3) hx hb htA in_S hown hK hP 0 rfl rfl 0 (by decide) (htA _ k_14) (fun _ h9 => h9) rfl d_S_shiftRight_17 ?_
      refine lv_bipush (v := 63) hx hb d_S_shiftRight_20 (by decide) ?_
      refine lv_lshl (v := (sL v10_1 63)) hx hb d_S_shiftRight_22 rfl ?_
      refine lv_aload_n hx hb d_S_shiftRight_23 rfl (lv_at hl 0 rfl) ?_
      refine va_get (D := (dC, dI)) (ci := 2) (v := .long v10_2) (C := R_S) (T := F_S) (N := 3) hx hb htA in_S hown hK hP 0 rfl rfl 1 (by decide) (htA _ k_15) (fun _ h9 => h9) rfl d_S_shiftRight_24 ?_
      refine lv_iconst (v := 1) hx hb d_S_shiftRight_27 (by decide) ?_
      refine lv_lushr (v := (uR v10_2 1)) hx hb d_S_shiftRight_28 rfl ?_
      refine lv_lor hx hb d_S_shiftRight_29 ?_
      refine lv_aload_n hx hb d_S_shiftRight_30 rfl (lv_at hl 0 rfl) ?_
      refine va_get (D := (dC, dI)) (ci := 2) (v := .long v10_2) (C := R_S) (T := F_S) (N := 3) hx hb htA in_S hown hK hP 0 rfl rfl 1 (by decide) (htA _ k_15) (fun _ h9 => h9) rfl d_S_shiftRight_31 ?_
      refine lv_lconst (v := 1) hx hb d_S_shiftRight_34 (by decide) ?_
      refine lv_land hx hb d_S_shiftRight_35 ?_
      refine lv_lor hx hb d_S_shiftRight_36 ?_
      refine va_put (D := (dC, dI)) (ci := 2) (v := .long (((sL v10_1 63) ||| (uR v10_2 1)) ||| (v10_2 &&& 1))) (ty := .long) (C := R_S) (T := F_S) (N := 3) hx hb htA in_S t_S t_S_ok n_S hown hK hP hD hS 0 rfl rfl 1 (by decide) (htA _ k_15) (fun _ h9 => h9) rfl (by decide +kernel) rfl rfl (Nat.le_of_ble_eq_true rfl) d_S_shiftRight_37 (fun H locs hP hD hS => ?_)
      have hP : va_P (dC, dI) classes [(a4, .inr (2, [.long v10_1, .long (((sL v10_1 63) ||| (uR v10_2 1)) ||| (v10_2 &&& 1)), .int ex]))] H := hP
      have hD : va_D A [(a4, .inr (2, [.long v10_1, .long (((sL v10_1 63) ||| (uR v10_2 1)) ||| (v10_2 &&& 1)), .int ex]))] := hD
      refine lv_aload_n hx hb d_S_shiftRight_40 rfl (lv_at hl 0 rfl) ?_
      refine lv_dup hx hb d_S_shiftRight_41 rfl ?_
      refine va_get (D := (dC, dI)) (ci := 2) (v := .long v10_1) (C := R_S) (T := F_S) (N := 3) hx hb htA in_S hown hK hP 0 rfl rfl 0 (by decide) (htA _ k_14) (fun _ h9 => h9) rfl d_S_shiftRight_42 ?_
      refine lv_iconst (v := 1) hx hb d_S_shiftRight_45 (by decide) ?_
      refine lv_lushr (v := (uR v10_1 1)) hx hb d_S_shiftRight_46 rfl ?_
      refine va_put (D := (dC, dI)) (ci := 2) (v := .long (uR v10_1 1)) (ty := .long) (C := R_S) (T := F_S) (N := 3) hx hb htA in_S t_S t_S_ok n_S hown hK hP hD hS 0 rfl rfl 0 (by decide) (htA _ k_14) (fun _ h9 => h9) rfl (by decide +kernel) rfl rfl (Nat.le_of_ble_eq_true rfl) d_S_shiftRight_47 (fun H locs hP hD hS => ?_)
      have hP : va_P (dC, dI) classes [(a4, .inr (2, [.long (uR v10_1 1), .long (((sL v10_1 63) ||| (uR v10_2 1)) ||| (v10_2 &&& 1)), .int ex]))] H := hP
      have hD : va_D A [(a4, .inr (2, [.long (uR v10_1 1), .long (((sL v10_1 63) ||| (uR v10_2 1)) ||| (v10_2 &&& 1)), .int ex]))] := hD
      refine lv_iinc (v := (v10_0 + 1)) (lv' := [(3, .int (v10_0 + 1)), (0, .ref a4), (1, .int ipl), (2, .int (if 128 < ipl then 128 else ipl))]) hx hb d_S_shiftRight_50 hl (k := 3) rfl rfl (by decide) rfl (fun ls hl => ?_)
      refine lv_goto (tgt := 10) hx hb d_S_shiftRight_53 (by decide) ?_
      exact hbk ((v10_0 + 1), (uR v10_1 1), (((sL v10_1 63) ||| (uR v10_2 1)) ||| (v10_2 &&& 1))) (by clear hP hD hl hS; unfold nx_S_shiftRight_10; (try dsimp only); rw [if_neg c_12]) H locs ls ⟨hP.sub [0] rfl, hD.sub [0] (by decide) rfl, hS, lv_sub hl [1, 2, 3, 0] rfl⟩
  · skip
    rintro ⟨v10_0, v10_1, v10_2⟩ H locs ls ev ⟨hP, hD, hS, hl⟩
    have ev10_0 : (lrun (nx_S_shiftRight_10 ipl) 128 (0, hi, lo)).1 = v10_0 := by rw [← ev]
    have ev10_1 : (lrun (nx_S_shiftRight_10 ipl) 128 (0, hi, lo)).2.1 = v10_1 := by rw [← ev]
    have ev10_2 : (lrun (nx_S_shiftRight_10 ipl) 128 (0, hi, lo)).2.2 = v10_2 := by rw [← ev]
    clear ev
    have hP : va_P (dC, dI) classes [(a4, .inr (2, [.long v10_1, .long v10_2, .int ex]))] H := hP
    have hD : va_D A [(a4, .inr (2, [.long v10_1, .long v10_2, .int ex]))] := hD
    have hl : lv_has ls 4 [(0, .ref a4), (1, .int ipl), (2, .int (if 128 < ipl then 128 else ipl)), (3, .int v10_0)] := hl
    refine lv_aload_n hx hb d_S_shiftRight_56 rfl (lv_at hl 0 rfl) ?_
    refine lv_dup hx hb d_S_shiftRight_57 rfl ?_
    refine va_get (D := (dC, dI)) (ci := 2) (v := .int ex) (C := R_S) (T := F_S) (N := 3) hx hb htA in_S hown hK hP 0 rfl rfl 2 (by decide) (htA _ k_16) (fun _ h9 => h9) rfl d_S_shiftRight_58 ?_
    refine lv_iload_n hx hb d_S_shiftRight_61 rfl (lv_at hl 1 rfl) ?_
    refine lv_iadd hx hb d_S_shiftRight_62 ?_
    refine va_put (D := (dC, dI)) (ci := 2) (v := .int (ex + ipl)) (ty := .int) (C := R_S) (T := F_S) (N := 3) hx hb htA in_S t_S t_S_ok n_S hown hK hP hD hS 0 rfl rfl 2 (by decide) (htA _ k_16) (fun _ h9 => h9) rfl (by decide +kernel) rfl rfl (Nat.le_of_ble_eq_true rfl) d_S_shiftRight_63 (fun H locs hP hD hS => ?_)
    have hP : va_P (dC, dI) classes [(a4, .inr (2, [.long v10_1, .long v10_2, .int (ex + ipl)]))] H := hP
    have hD : va_D A [(a4, .inr (2, [.long v10_1, .long v10_2, .int (ex + ipl)]))] := hD
    have hE : g_S_shiftRight hi lo ex ipl = (v10_1, v10_2, (ex + ipl)) := by clear hP hD hl hS; subst ev10_2; subst ev10_1; subst ev10_0; unfold g_S_shiftRight; rfl
    have hP9 : va_P (dC, dI) classes [(a4, .inr (2, [.long ((g_S_shiftRight hi lo ex ipl).1), .long ((g_S_shiftRight hi lo ex ipl).2.1), .int ((g_S_shiftRight hi lo ex ipl).2.2)]))] H := by rw [hE]; exact hP.sub [0] rfl
    have hD9 : va_D A [(a4, .inr (2, [.long ((g_S_shiftRight hi lo ex ipl).1), .long ((g_S_shiftRight hi lo ex ipl).2.1), .int ((g_S_shiftRight hi lo ex ipl).2.2)]))] := by rw [hE]; exact hD.sub [0] (by decide) rfl
    exact W.vret hx hb hr (fun t ht hW => ⟨⟨(), rfl, trivial, by rw [ht]; exact hP9, hD9⟩, hS.F ht⟩) hS.2.2 d_S_shiftRight_66
theorem d_S_add_0 : decode b_S_add 0 = .ok (.aload_n 0, 1) := by decide +kernel
theorem d_S_add_1 : decode b_S_add 1 = .ok (.iconst 1, 1) := by decide +kernel
theorem d_S_add_2 : decode b_S_add 2 = .ok (.invokevirtual 52, 3) := by decide +kernel
theorem d_S_add_5 : decode b_S_add 5 = .ok (.aload_n 1, 1) := by decide +kernel
theorem d_S_add_6 : decode b_S_add 6 = .ok (.aload_n 0, 1) := by decide +kernel
theorem d_S_add_7 : decode b_S_add 7 = .ok (.getfield 18, 3) := by decide +kernel
theorem d_S_add_10 : decode b_S_add 10 = .ok (.aload_n 1, 1) := by decide +kernel
theorem d_S_add_11 : decode b_S_add 11 = .ok (.getfield 18, 3) := by decide +kernel
theorem d_S_add_14 : decode b_S_add 14 = .ok (.isub, 1) := by decide +kernel
theorem d_S_add_15 : decode b_S_add 15 = .ok (.invokevirtual 52, 3) := by decide +kernel
theorem d_S_add_18 : decode b_S_add 18 = .ok (.aload_n 0, 1) := by decide +kernel
theorem d_S_add_19 : decode b_S_add 19 = .ok (.dup, 1) := by decide +kernel
theorem d_S_add_20 : decode b_S_add 20 = .ok (.getfield 15, 3) := by decide +kernel
theorem d_S_add_23 : decode b_S_add 23 = .ok (.aload_n 1, 1) := by decide +kernel
theorem d_S_add_24 : decode b_S_add 24 = .ok (.getfield 15, 3) := by decide +kernel
theorem d_S_add_27 : decode b_S_add 27 = .ok (.ladd, 1) := by decide +kernel
theorem d_S_add_28 : decode b_S_add 28 = .ok (.putfield 15, 3) := by decide +kernel
theorem d_S_add_31 : decode b_S_add 31 = .ok (.aload_n 0, 1) := by decide +kernel
theorem d_S_add_32 : decode b_S_add 32 = .ok (.getfield 15, 3) := by decide +kernel
theorem d_S_add_35 : decode b_S_add 35 = .ok (.aload_n 1, 1) := by decide +kernel
theorem d_S_add_36 : decode b_S_add 36 = .ok (.getfield 15, 3) := by decide +kernel
theorem d_S_add_39 : decode b_S_add 39 = .ok (.invokestatic 39, 3) := by decide +kernel
theorem d_S_add_42 : decode b_S_add 42 = .ok (.ifCond .ge 7, 3) := by decide +kernel
theorem d_S_add_49 : decode b_S_add 49 = .ok (.iconst 0, 1) := by decide +kernel
theorem d_S_add_45 : decode b_S_add 45 = .ok (.iconst 1, 1) := by decide +kernel
theorem d_S_add_46 : decode b_S_add 46 = .ok (.goto 4, 3) := by decide +kernel
theorem d_S_add_50 : decode b_S_add 50 = .ok (.istore_n 2, 1) := by decide +kernel
theorem d_S_add_51 : decode b_S_add 51 = .ok (.aload_n 0, 1) := by decide +kernel
theorem d_S_add_52 : decode b_S_add 52 = .ok (.dup, 1) := by decide +kernel
theorem d_S_add_53 : decode b_S_add 53 = .ok (.getfield 9, 3) := by decide +kernel
theorem d_S_add_56 : decode b_S_add 56 = .ok (.aload_n 1, 1) := by decide +kernel
theorem d_S_add_57 : decode b_S_add 57 = .ok (.getfield 9, 3) := by decide +kernel
theorem d_S_add_60 : decode b_S_add 60 = .ok (.iload_n 2, 1) := by decide +kernel
theorem d_S_add_61 : decode b_S_add 61 = .ok (.i2l, 1) := by decide +kernel
theorem d_S_add_62 : decode b_S_add 62 = .ok (.ladd, 1) := by decide +kernel
theorem d_S_add_63 : decode b_S_add 63 = .ok (.ladd, 1) := by decide +kernel
theorem d_S_add_64 : decode b_S_add 64 = .ok (.putfield 9, 3) := by decide +kernel
theorem d_S_add_67 : decode b_S_add 67 = .ok (.aload_n 0, 1) := by decide +kernel
theorem d_S_add_68 : decode b_S_add 68 = .ok (.invokevirtual 36, 3) := by decide +kernel
theorem d_S_add_71 : decode b_S_add 71 = .ok (.return_, 1) := by decide +kernel
set_option maxHeartbeats 4000000 in
set_option maxRecDepth 100000 in
theorem c_S_add (l : Launch) (dC : Nat → ClassId) (dI : Nat → Nat → Nat) (a4 : Nat) (a5 : Nat) (sz : Nat) (hi : Int64) (lo : Int64) (ex : Int32) (hi2 : Int64) (lo2 : Int64) (ex2 : Int32) : Met l y_S_add w_S_add ({ frames := 2, cells := 0, slots := 0, locals := 46 }) (cPc (dC, dI) [] [.ref a4, .ref a5] [(a4, .inr (2, [.long hi, .long lo, .int ex])), (a5, .inr (2, [.long hi2, .long lo2, .int ex2]))] sz) (va_Qv (fun (_ : Unit) => True) (fun _ t => va_P (dC, dI) classes [(a4, .inr (2, [.long ((g_S_add hi lo ex hi2 lo2 ex2).1), .long ((g_S_add hi lo ex hi2 lo2 ex2).2.1), .int ((g_S_add hi lo ex hi2 lo2 ex2).2.2.1)])), (a5, .inr (2, [.long ((g_S_add hi lo ex hi2 lo2 ex2).2.2.2.1), .long ((g_S_add hi lo ex hi2 lo2 ex2).2.2.2.2.1), .int ((g_S_add hi lo ex hi2 lo2 ex2).2.2.2.2.2)]))] t.heap ∧ va_D (va_A [(a4, .inr (2, [.long hi, .long lo, .int ex])), (a5, .inr (2, [.long hi2, .long lo2, .int ex2]))] sz) [(a4, .inr (2, [.long ((g_S_add hi lo ex hi2 lo2 ex2).1), .long ((g_S_add hi lo ex hi2 lo2 ex2).2.1), .int ((g_S_add hi lo ex hi2 lo2 ex2).2.2.1)])), (a5, .inr (2, [.long ((g_S_add hi lo ex hi2 lo2 ex2).2.2.2.1), .long ((g_S_add hi lo ex hi2 lo2 ex2).2.2.2.2.1), .int ((g_S_add hi lo ex hi2 lo2 ex2).2.2.2.2.2)]))]) (va_A [(a4, .inr (2, [.long hi, .long lo, .int ex])), (a5, .inr (2, [.long hi2, .long lo2, .int ex2]))] sz)) 0 0 (va_A [(a4, .inr (2, [.long hi, .long lo, .int ex])), (a5, .inr (2, [.long hi2, .long lo2, .int ex2]))] sz) := by
  refine Met.ofW (cc := b_S_add) (maxL := 3) (ret := none) (by decide) rfl ?_
  intro p e s m args below meth c s₁ B hml hv
  obtain ⟨rfl, hsz, hP, hK, hD0, hnw⟩ := hv
  have hx := B.exec
  have hb := B.bytes
  have hr := B.returns
  have hts := atoms_spec (ws := w_S_add) B.pre
  have htA : ∀ w ∈ wAll, w.before _ s = true := fun w h => hts w (List.mem_cons_of_mem _ h)
  have hown : s.vm.findClass R_S = some m.cls := findClass_of_methodNamed B.named
  have hlocks := B.notSynchronized
  subst hsz
  have hD := hD0.self (sz := s.heap.size)
  generalize hAe : va_A [(a4, .inr (2, [.long hi, .long lo, .int ex])), (a5, .inr (2, [.long hi2, .long lo2, .int ex2]))] s.heap.size = A at hD ⊢
  have hA : ∀ q : Nat, s.heap.size ≤ q → A q := fun q h => by rw [← hAe]; exact Or.inr h
  have hS : va_S A s.heap s.heap [] := va_S.rf
  have hP : va_P (dC, dI) classes [(a4, .inr (2, [.long hi, .long lo, .int ex])), (a5, .inr (2, [.long hi2, .long lo2, .int ex2]))] s.heap := hP
  obtain ⟨H, eH⟩ : ∃ z, z = s.heap := ⟨_, rfl⟩
  rw [← eH] at hP
  have hS : va_S A s.heap H [] := by rw [eH]; exact hS
  rw [← eH]
  generalize ([] : List Loc) = locs at hS ⊢
  have hl := lv_entry ([.ref a4, .ref a5]) (n := 3) (Nat.le_of_ble_eq_true rfl)
  rw [lg_entry_eq]
  generalize (lg_sl ([.ref a4, .ref a5]) ++ List.replicate (3 - (lg_sl ([.ref a4, .ref a5])).length) Slot.unset).toArray = ls at hl ⊢
  have hl : lv_has ls 3 [(0, .ref a4), (1, .ref a5)] := hl
  refine lv_aload_n hx hb d_S_add_0 rfl (lv_at hl 0 rfl) ?_
  refine lv_iconst (v := 1) hx hb d_S_add_1 (by decide) ?_
  have hPc := hP.sub (ws' := [(a4, .inr (2, [.long hi, .long lo, .int ex]))]) [0] rfl
  have hDc := hD.sub (ws' := [(a4, .inr (2, [.long hi, .long lo, .int ex]))]) [0] (by decide) rfl
  have hKc := hK.sub (tys' := []) [] rfl
  have hFc := va_free (wc := [(a4, .inr (2, [.long hi, .long lo, .int ex]))]) hD hS hA [0] rfl
  refine cc_v (va_runV (As := [.int 1]) (rest := []) ⟨hx, hb, hml, hown, htA⟩ (c_S_shiftRight l dC dI a4 H.size hi lo ex 1) (cwV 1 htA (gi_V k_53 k_54 k_55 k_36 (gi_code k_52)) rfl rfl rfl (by decide +kernel) ⟨Nat.le_of_ble_eq_true rfl, Nat.le_of_ble_eq_true rfl⟩) (pre_V hnw hPc hKc hDc (ci := 2) (q0 := 0) rfl rfl) rfl rfl hl.1 rfl (lv_room (Nat.le_of_ble_eq_true rfl)) d_S_add_2 ⟨Nat.le_of_ble_eq_true rfl, Nat.le_of_ble_eq_true rfl⟩) hS hFc hP hD [0] [1] (wr := [(a5, .inr (2, [.long hi2, .long lo2, .int ex2]))]) rfl rfl (by decide) (by decide) (fun H locs hP hD hS => ?_)
  obtain ⟨z2, ez2⟩ : ∃ z, g_S_shiftRight hi lo ex 1 = z := ⟨_, rfl⟩
  rw [ez2] at hP hD
  have hP : va_P (dC, dI) classes [(a5, .inr (2, [.long hi2, .long lo2, .int ex2])), (a4, .inr (2, [.long z2.1, .long z2.2.1, .int z2.2.2]))] H := hP
  have hD : va_D A [(a5, .inr (2, [.long hi2, .long lo2, .int ex2])), (a4, .inr (2, [.long z2.1, .long z2.2.1, .int z2.2.2]))] := hD
  refine lv_aload_n hx hb d_S_add_5 rfl (lv_at hl 1 rfl) ?_
  refine lv_aload_n hx hb d_S_add_6 rfl (lv_at hl 0 rfl) ?_
  refine va_get (D := (dC, dI)) (ci := 2) (v := .int z2.2.2) (C := R_S) (T := F_S) (N := 3) hx hb htA in_S hown hK hP 1 rfl rfl 2 (by decide) (htA _ k_16) (fun _ h9 => h9) rfl d_S_add_7 ?_
  refine lv_aload_n hx hb d_S_add_10 rfl (lv_at hl 1 rfl) ?_
  refine va_get (D := (dC, dI)) (ci := 2) (v := .int ex2) (C := R_S) (T := F_S) (N := 3) hx hb htA in_S hown hK hP 0 rfl rfl 2 (by decide) (htA _ k_16) (fun _ h9 => h9) rfl d_S_add_11 ?_
  refine lv_isub hx hb d_S_add_14 ?_
  have hPc := hP.sub (ws' := [(a5, .inr (2, [.long hi2, .long lo2, .int ex2]))]) [0] rfl
  have hDc := hD.sub (ws' := [(a5, .inr (2, [.long hi2, .long lo2, .int ex2]))]) [0] (by decide) rfl
  have hKc := hK.sub (tys' := []) [] rfl
  have hFc := va_free (wc := [(a5, .inr (2, [.long hi2, .long lo2, .int ex2]))]) hD hS hA [0] rfl
  refine cc_v (va_runV (As := [.int (z2.2.2 - ex2)]) (rest := []) ⟨hx, hb, hml, hown, htA⟩ (c_S_shiftRight l dC dI a5 H.size hi2 lo2 ex2 (z2.2.2 - ex2)) (cwV 1 htA (gi_V k_53 k_54 k_55 k_36 (gi_code k_52)) rfl rfl rfl (by decide +kernel) ⟨Nat.le_of_ble_eq_true rfl, Nat.le_of_ble_eq_true rfl⟩) (pre_V hnw hPc hKc hDc (ci := 2) (q0 := 0) rfl rfl) rfl rfl hl.1 rfl (lv_room (Nat.le_of_ble_eq_true rfl)) d_S_add_15 ⟨Nat.le_of_ble_eq_true rfl, Nat.le_of_ble_eq_true rfl⟩) hS hFc hP hD [0] [1] (wr := [(a4, .inr (2, [.long z2.1, .long z2.2.1, .int z2.2.2]))]) rfl rfl (by decide) (by decide) (fun H locs hP hD hS => ?_)
  obtain ⟨z15, ez15⟩ : ∃ z, g_S_shiftRight hi2 lo2 ex2 (z2.2.2 - ex2) = z := ⟨_, rfl⟩
  rw [ez15] at hP hD
  have hP : va_P (dC, dI) classes [(a4, .inr (2, [.long z2.1, .long z2.2.1, .int z2.2.2])), (a5, .inr (2, [.long z15.1, .long z15.2.1, .int z15.2.2]))] H := hP
  have hD : va_D A [(a4, .inr (2, [.long z2.1, .long z2.2.1, .int z2.2.2])), (a5, .inr (2, [.long z15.1, .long z15.2.1, .int z15.2.2]))] := hD
  refine lv_aload_n hx hb d_S_add_18 rfl (lv_at hl 0 rfl) ?_
  refine lv_dup hx hb d_S_add_19 rfl ?_
  refine va_get (D := (dC, dI)) (ci := 2) (v := .long z2.2.1) (C := R_S) (T := F_S) (N := 3) hx hb htA in_S hown hK hP 0 rfl rfl 1 (by decide) (htA _ k_15) (fun _ h9 => h9) rfl d_S_add_20 ?_
  refine lv_aload_n hx hb d_S_add_23 rfl (lv_at hl 1 rfl) ?_
  refine va_get (D := (dC, dI)) (ci := 2) (v := .long z15.2.1) (C := R_S) (T := F_S) (N := 3) hx hb htA in_S hown hK hP 1 rfl rfl 1 (by decide) (htA _ k_15) (fun _ h9 => h9) rfl d_S_add_24 ?_
  refine lv_ladd hx hb d_S_add_27 ?_
  refine va_put (D := (dC, dI)) (ci := 2) (v := .long (z2.2.1 + z15.2.1)) (ty := .long) (C := R_S) (T := F_S) (N := 3) hx hb htA in_S t_S t_S_ok n_S hown hK hP hD hS 0 rfl rfl 1 (by decide) (htA _ k_15) (fun _ h9 => h9) rfl (by decide +kernel) rfl rfl (Nat.le_of_ble_eq_true rfl) d_S_add_28 (fun H locs hP hD hS => ?_)
  have hP : va_P (dC, dI) classes [(a4, .inr (2, [.long z2.1, .long (z2.2.1 + z15.2.1), .int z2.2.2])), (a5, .inr (2, [.long z15.1, .long z15.2.1, .int z15.2.2]))] H := hP
  have hD : va_D A [(a4, .inr (2, [.long z2.1, .long (z2.2.1 + z15.2.1), .int z2.2.2])), (a5, .inr (2, [.long z15.1, .long z15.2.1, .int z15.2.2]))] := hD
  refine lv_aload_n hx hb d_S_add_31 rfl (lv_at hl 0 rfl) ?_
  refine va_get (D := (dC, dI)) (ci := 2) (v := .long (z2.2.1 + z15.2.1)) (C := R_S) (T := F_S) (N := 3) hx hb htA in_S hown hK hP 0 rfl rfl 1 (by decide) (htA _ k_15) (fun _ h9 => h9) rfl d_S_add_32 ?_
  refine lv_aload_n hx hb d_S_add_35 rfl (lv_at hl 1 rfl) ?_
  refine va_get (D := (dC, dI)) (ci := 2) (v := .long z15.2.1) (C := R_S) (T := F_S) (N := 3) hx hb htA in_S hown hK hP 1 rfl rfl 1 (by decide) (htA _ k_15) (fun _ h9 => h9) rfl d_S_add_36 ?_
  have hPc := hP.sub (ws' := []) [] rfl
  have hDc := hD.sub (ws' := []) [] (by decide) rfl
  have hKc := hK.sub (tys' := []) [] rfl
  have hFc := va_free (wc := []) hD hS hA [] rfl
  refine cc_i (va_runS (As := [.long (z2.2.1 + z15.2.1), .long z15.2.1]) (rest := []) ⟨hx, hb, hml, hown, htA⟩ (c_Lg_compareUnsigned l dC dI H.size (z2.2.1 + z15.2.1) z15.2.1) (va_cwS 2 htA (gi_S k_33 k_34 k_2 (gi_code k_5)) rfl rfl rfl (by decide +kernel) ⟨Nat.le_of_ble_eq_true rfl, Nat.le_of_ble_eq_true rfl⟩) (pre_S hnw hPc hKc hDc) rfl rfl hl.1 rfl (lv_room (Nat.le_of_ble_eq_true rfl)) d_S_add_39 ⟨Nat.le_of_ble_eq_true rfl, Nat.le_of_ble_eq_true rfl⟩) hS hFc hP hD [] [0, 1] (wr := [(a4, .inr (2, [.long z2.1, .long (z2.2.1 + z15.2.1), .int z2.2.2])), (a5, .inr (2, [.long z15.1, .long z15.2.1, .int z15.2.2]))]) rfl rfl (by decide) (by decide) (fun H locs hP hD hS => ?_)
  have hP : va_P (dC, dI) classes [(a4, .inr (2, [.long z2.1, .long (z2.2.1 + z15.2.1), .int z2.2.2])), (a5, .inr (2, [.long z15.1, .long z15.2.1, .int z15.2.2]))] H := hP
  have hD : va_D A [(a4, .inr (2, [.long z2.1, .long (z2.2.1 + z15.2.1), .int z2.2.2])), (a5, .inr (2, [.long z15.1, .long z15.2.1, .int z15.2.2]))] := hD
  refine cut_join (X := Bool) 0 0 (fun (x : Bool) (H : Heap) (locs : List Loc) (ls : Array Slot) => (if uN z15.2.1 ≤ uN (z2.2.1 + z15.2.1) then false else true) = x ∧ va_P (dC, dI) classes [(a4, .inr (2, [.long z2.1, .long (z2.2.1 + z15.2.1), .int z2.2.2])), (a5, .inr (2, [.long z15.1, .long z15.2.1, .int z15.2.2]))] H ∧ va_D A [(a4, .inr (2, [.long z2.1, .long (z2.2.1 + z15.2.1), .int z2.2.2])), (a5, .inr (2, [.long z15.1, .long z15.2.1, .int z15.2.2]))] ∧ va_S A s.heap H locs ∧ lv_has ls 3 [(0, .ref a4), (1, .ref a5)]) (fun x ls => F0 m 50 ls [.int (b2i x)]) ?_ (fun J50 => ?_)
  · skip
    rintro j50_0 H locs ls ⟨ej50_0, hP, hD, hS, hl⟩
    have ej50_0 : (if uN z15.2.1 ≤ uN (z2.2.1 + z15.2.1) then false else true) = j50_0 := ej50_0
    have hP : va_P (dC, dI) classes [(a4, .inr (2, [.long z2.1, .long (z2.2.1 + z15.2.1), .int z2.2.2])), (a5, .inr (2, [.long z15.1, .long z15.2.1, .int z15.2.2]))] H := hP
    have hD : va_D A [(a4, .inr (2, [.long z2.1, .long (z2.2.1 + z15.2.1), .int z2.2.2])), (a5, .inr (2, [.long z15.1, .long z15.2.1, .int z15.2.2]))] := hD
    have hl : lv_has ls 3 [(0, .ref a4), (1, .ref a5)] := hl
    refine lv_istore_n (lv' := [(2, .int (b2i j50_0)), (0, .ref a4), (1, .ref a5)]) hx hb d_S_add_50 rfl hl (by decide) rfl (fun ls hl => ?_)
    refine lv_aload_n hx hb d_S_add_51 rfl (lv_at hl 1 rfl) ?_
    refine lv_dup hx hb d_S_add_52 rfl ?_
    refine va_get (D := (dC, dI)) (ci := 2) (v := .long z2.1) (C := R_S) (T := F_S) (N := 3) hx hb htA in_S hown hK hP 0 rfl rfl 0 (by decide) (htA _ k_14) (fun _ h9 => h9) rfl d_S_add_53 ?_
    refine lv_aload_n hx hb d_S_add_56 rfl (lv_at hl 2 rfl) ?_
    refine va_get (D := (dC, dI)) (ci := 2) (v := .long z15.1) (C := R_S) (T := F_S) (N := 3) hx hb htA in_S hown hK hP 1 rfl rfl 0 (by decide) (htA _ k_14) (fun _ h9 => h9) rfl d_S_add_57 ?_
    refine lv_iload_n hx hb d_S_add_60 rfl (lv_at hl 0 rfl) ?_
    refine lv_i2l (v := (b2i j50_0).toInt64) hx hb d_S_add_61 rfl ?_
    refine lv_ladd hx hb d_S_add_62 ?_
    refine lv_ladd hx hb d_S_add_63 ?_
    refine va_put (D := (dC, dI)) (ci := 2) (v := .long (z2.1 + (z15.1 + ((b2i j50_0).toInt64)))) (ty := .long) (C := R_S) (T := F_S) (N := 3) hx hb htA in_S t_S t_S_ok n_S hown hK hP hD hS 0 rfl rfl 0 (by decide) (htA _ k_14) (fun _ h9 => h9) rfl (by decide +kernel) rfl rfl (Nat.le_of_ble_eq_true rfl) d_S_add_64 (fun H locs hP hD hS => ?_)
    have hP : va_P (dC, dI) classes [(a4, .inr (2, [.long (z2.1 + (z15.1 + ((b2i j50_0).toInt64))), .long (z2.2.1 + z15.2.1), .int z2.2.2])), (a5, .inr (2, [.long z15.1, .long z15.2.1, .int z15.2.2]))] H := hP
    have hD : va_D A [(a4, .inr (2, [.long (z2.1 + (z15.1 + ((b2i j50_0).toInt64))), .long (z2.2.1 + z15.2.1), .int z2.2.2])), (a5, .inr (2, [.long z15.1, .long z15.2.1, .int z15.2.2]))] := hD
    refine lv_aload_n hx hb d_S_add_67 rfl (lv_at hl 1 rfl) ?_
    have hPc := hP.sub (ws' := [(a4, .inr (2, [.long (z2.1 + (z15.1 + ((b2i j50_0).toInt64))), .long (z2.2.1 + z15.2.1), .int z2.2.2]))]) [0] rfl
    have hDc := hD.sub (ws' := [(a4, .inr (2, [.long (z2.1 + (z15.1 + ((b2i j50_0).toInt64))), .long (z2.2.1 + z15.2.1), .int z2.2.2]))]) [0] (by decide) rfl
    have hKc := hK.sub (tys' := []) [] rfl
    have hFc := va_free (wc := [(a4, .inr (2, [.long (z2.1 + (z15.1 + ((b2i j50_0).toInt64))), .long (z2.2.1 + z15.2.1), .int z2.2.2]))]) hD hS hA [0] rfl
    refine cc_v (va_runV (As := []) (rest := []) ⟨hx, hb, hml, hown, htA⟩ (c_S_normalize l dC dI a4 H.size (z2.1 + (z15.1 + ((b2i j50_0).toInt64))) (z2.2.1 + z15.2.1) z2.2.2) (cwV 0 htA (gi_V k_45 k_46 k_47 k_36 (gi_code k_40)) rfl rfl rfl (by decide +kernel) ⟨Nat.le_of_ble_eq_true rfl, Nat.le_of_ble_eq_true rfl⟩) (pre_V hnw hPc hKc hDc (ci := 2) (q0 := 0) rfl rfl) rfl rfl hl.1 rfl (lv_room (Nat.le_of_ble_eq_true rfl)) d_S_add_68 ⟨Nat.le_of_ble_eq_true rfl, Nat.le_of_ble_eq_true rfl⟩) hS hFc hP hD [0] [1] (wr := [(a5, .inr (2, [.long z15.1, .long z15.2.1, .int z15.2.2]))]) rfl rfl (by decide) (by decide) (fun H locs hP hD hS => ?_)
    obtain ⟨z68, ez68⟩ : ∃ z, g_S_normalize (z2.1 + (z15.1 + ((b2i j50_0).toInt64))) (z2.2.1 + z15.2.1) z2.2.2 = z := ⟨_, rfl⟩
    rw [ez68] at hP hD
    have hP : va_P (dC, dI) classes [(a5, .inr (2, [.long z15.1, .long z15.2.1, .int z15.2.2])), (a4, .inr (2, [.long z68.1, .long z68.2.1, .int z68.2.2]))] H := hP
    have hD : va_D A [(a5, .inr (2, [.long z15.1, .long z15.2.1, .int z15.2.2])), (a4, .inr (2, [.long z68.1, .long z68.2.1, .int z68.2.2]))] := hD
    have hE : g_S_add hi lo ex hi2 lo2 ex2 = (z68.1, z68.2.1, z68.2.2, z15.1, z15.2.1, z15.2.2) := by clear hP hD hl hS; subst ez68; subst ej50_0; subst ez15; subst ez2; unfold g_S_add; rfl
    have hP9 : va_P (dC, dI) classes [(a4, .inr (2, [.long ((g_S_add hi lo ex hi2 lo2 ex2).1), .long ((g_S_add hi lo ex hi2 lo2 ex2).2.1), .int ((g_S_add hi lo ex hi2 lo2 ex2).2.2.1)])), (a5, .inr (2, [.long ((g_S_add hi lo ex hi2 lo2 ex2).2.2.2.1), .long ((g_S_add hi lo ex hi2 lo2 ex2).2.2.2.2.1), .int ((g_S_add hi lo ex hi2 lo2 ex2).2.2.2.2.2)]))] H := by rw [hE]; exact hP.sub [1, 0] rfl
    have hD9 : va_D A [(a4, .inr (2, [.long ((g_S_add hi lo ex hi2 lo2 ex2).1), .long ((g_S_add hi lo ex hi2 lo2 ex2).2.1), .int ((g_S_add hi lo ex hi2 lo2 ex2).2.2.1)])), (a5, .inr (2, [.long ((g_S_add hi lo ex hi2 lo2 ex2).2.2.2.1), .long ((g_S_add hi lo ex hi2 lo2 ex2).2.2.2.2.1), .int ((g_S_add hi lo ex hi2 lo2 ex2).2.2.2.2.2)]))] := by rw [hE]; exact hD.sub [1, 0] (by decide) rfl
    exact W.vret hx hb hr (fun t ht hW => ⟨⟨(), rfl, trivial, by rw [ht]; exact hP9, hD9⟩, hS.F ht⟩) hS.2.2 d_S_add_71
  · skip
    refine lv_if_ge (tgt := 49) hx hb d_S_add_42 (by decide) (fun c_42 => ?_) (fun c_42 => ?_)
    · skip
      have c_42 : uN z15.2.1 ≤ uN (z2.2.1 + z15.2.1) := (cU_ge _ _).mp c_42
      refine lv_iconst (v := 0) hx hb d_S_add_49 (by decide) ?_
      exact J50 (false) H locs ls ⟨by clear hP hD hl hS; (try dsimp only); rw [if_pos c_42], hP.sub [0, 1] rfl, hD.sub [0, 1] (by decide) rfl, hS, lv_sub hl [0, 1] rfl⟩
    · skip
      have c_42 : ¬ uN z15.2.1 ≤ uN (z2.2.1 + z15.2.1) := fun h9 => c_42 ((cU_ge _ _).mpr h9)
      refine lv_iconst (v := 1) hx hb d_S_add_45 (by decide) ?_
      refine lv_goto (tgt := 50) hx hb d_S_add_46 (by decide) ?_
      exact J50 (true) H locs ls ⟨by clear hP hD hl hS; (try dsimp only); rw [if_neg c_42], hP.sub [0, 1] rfl, hD.sub [0, 1] (by decide) rfl, hS, lv_sub hl [0, 1] rfl⟩
theorem d_S_subtract_0 : decode b_S_subtract 0 = .ok (.aload_n 1, 1) := by decide +kernel
theorem d_S_subtract_1 : decode b_S_subtract 1 = .ok (.aload_n 0, 1) := by decide +kernel
theorem d_S_subtract_2 : decode b_S_subtract 2 = .ok (.getfield 18, 3) := by decide +kernel
theorem d_S_subtract_5 : decode b_S_subtract 5 = .ok (.aload_n 1, 1) := by decide +kernel
theorem d_S_subtract_6 : decode b_S_subtract 6 = .ok (.getfield 18, 3) := by decide +kernel
theorem d_S_subtract_9 : decode b_S_subtract 9 = .ok (.isub, 1) := by decide +kernel
theorem d_S_subtract_10 : decode b_S_subtract 10 = .ok (.invokevirtual 52, 3) := by decide +kernel
theorem d_S_subtract_13 : decode b_S_subtract 13 = .ok (.aload_n 0, 1) := by decide +kernel
theorem d_S_subtract_14 : decode b_S_subtract 14 = .ok (.getfield 15, 3) := by decide +kernel
theorem d_S_subtract_17 : decode b_S_subtract 17 = .ok (.aload_n 1, 1) := by decide +kernel
theorem d_S_subtract_18 : decode b_S_subtract 18 = .ok (.getfield 15, 3) := by decide +kernel
theorem d_S_subtract_21 : decode b_S_subtract 21 = .ok (.invokestatic 39, 3) := by decide +kernel
theorem d_S_subtract_24 : decode b_S_subtract 24 = .ok (.ifCond .ge 7, 3) := by decide +kernel
theorem d_S_subtract_31 : decode b_S_subtract 31 = .ok (.iconst 0, 1) := by decide +kernel
theorem d_S_subtract_27 : decode b_S_subtract 27 = .ok (.iconst 1, 1) := by decide +kernel
theorem d_S_subtract_28 : decode b_S_subtract 28 = .ok (.goto 4, 3) := by decide +kernel
theorem d_S_subtract_32 : decode b_S_subtract 32 = .ok (.istore_n 2, 1) := by decide +kernel
theorem d_S_subtract_33 : decode b_S_subtract 33 = .ok (.aload_n 0, 1) := by decide +kernel
theorem d_S_subtract_34 : decode b_S_subtract 34 = .ok (.dup, 1) := by decide +kernel
theorem d_S_subtract_35 : decode b_S_subtract 35 = .ok (.getfield 15, 3) := by decide +kernel
theorem d_S_subtract_38 : decode b_S_subtract 38 = .ok (.aload_n 1, 1) := by decide +kernel
theorem d_S_subtract_39 : decode b_S_subtract 39 = .ok (.getfield 15, 3) := by decide +kernel
theorem d_S_subtract_42 : decode b_S_subtract 42 = .ok (.lsub, 1) := by decide +kernel
theorem d_S_subtract_43 : decode b_S_subtract 43 = .ok (.putfield 15, 3) := by decide +kernel
theorem d_S_subtract_46 : decode b_S_subtract 46 = .ok (.aload_n 0, 1) := by decide +kernel
theorem d_S_subtract_47 : decode b_S_subtract 47 = .ok (.dup, 1) := by decide +kernel
theorem d_S_subtract_48 : decode b_S_subtract 48 = .ok (.getfield 9, 3) := by decide +kernel
theorem d_S_subtract_51 : decode b_S_subtract 51 = .ok (.aload_n 1, 1) := by decide +kernel
theorem d_S_subtract_52 : decode b_S_subtract 52 = .ok (.getfield 9, 3) := by decide +kernel
theorem d_S_subtract_55 : decode b_S_subtract 55 = .ok (.iload_n 2, 1) := by decide +kernel
theorem d_S_subtract_56 : decode b_S_subtract 56 = .ok (.i2l, 1) := by decide +kernel
theorem d_S_subtract_57 : decode b_S_subtract 57 = .ok (.ladd, 1) := by decide +kernel
theorem d_S_subtract_58 : decode b_S_subtract 58 = .ok (.lsub, 1) := by decide +kernel
theorem d_S_subtract_59 : decode b_S_subtract 59 = .ok (.putfield 9, 3) := by decide +kernel
theorem d_S_subtract_62 : decode b_S_subtract 62 = .ok (.aload_n 0, 1) := by decide +kernel
theorem d_S_subtract_63 : decode b_S_subtract 63 = .ok (.invokevirtual 36, 3) := by decide +kernel
theorem d_S_subtract_66 : decode b_S_subtract 66 = .ok (.return_, 1) := by decide +kernel
set_option maxHeartbeats 4000000 in
set_option maxRecDepth 100000 in
theorem c_S_subtract (l : Launch) (dC : Nat → ClassId) (dI : Nat → Nat → Nat) (a4 : Nat) (a5 : Nat) (sz : Nat) (hi : Int64) (lo : Int64) (ex : Int32) (hi2 : Int64) (lo2 : Int64) (ex2 : Int32) : Met l y_S_subtract w_S_subtract ({ frames := 2, cells := 0, slots := 0, locals := 46 }) (cPc (dC, dI) [] [.ref a4, .ref a5] [(a4, .inr (2, [.long hi, .long lo, .int ex])), (a5, .inr (2, [.long hi2, .long lo2, .int ex2]))] sz) (va_Qv (fun (_ : Unit) => True) (fun _ t => va_P (dC, dI) classes [(a4, .inr (2, [.long ((g_S_subtract hi lo ex hi2 lo2 ex2).1), .long ((g_S_subtract hi lo ex hi2 lo2 ex2).2.1), .int ((g_S_subtract hi lo ex hi2 lo2 ex2).2.2.1)])), (a5, .inr (2, [.long ((g_S_subtract hi lo ex hi2 lo2 ex2).2.2.2.1), .long ((g_S_subtract hi lo ex hi2 lo2 ex2).2.2.2.2.1), .int ((g_S_subtract hi lo ex hi2 lo2 ex2).2.2.2.2.2)]))] t.heap ∧ va_D (va_A [(a4, .inr (2, [.long hi, .long lo, .int ex])), (a5, .inr (2, [.long hi2, .long lo2, .int ex2]))] sz) [(a4, .inr (2, [.long ((g_S_subtract hi lo ex hi2 lo2 ex2).1), .long ((g_S_subtract hi lo ex hi2 lo2 ex2).2.1), .int ((g_S_subtract hi lo ex hi2 lo2 ex2).2.2.1)])), (a5, .inr (2, [.long ((g_S_subtract hi lo ex hi2 lo2 ex2).2.2.2.1), .long ((g_S_subtract hi lo ex hi2 lo2 ex2).2.2.2.2.1), .int ((g_S_subtract hi lo ex hi2 lo2 ex2).2.2.2.2.2)]))]) (va_A [(a4, .inr (2, [.long hi, .long lo, .int ex])), (a5, .inr (2, [.long hi2, .long lo2, .int ex2]))] sz)) 0 0 (va_A [(a4, .inr (2, [.long hi, .long lo, .int ex])), (a5, .inr (2, [.long hi2, .long lo2, .int ex2]))] sz) := by
  refine Met.ofW (cc := b_S_subtract) (maxL := 3) (ret := none) (by decide) rfl ?_
  intro p e s m args below meth c s₁ B hml hv
  obtain ⟨rfl, hsz, hP, hK, hD0, hnw⟩ := hv
  have hx := B.exec
  have hb := B.bytes
  have hr := B.returns
  have hts := atoms_spec (ws := w_S_subtract) B.pre
  have htA : ∀ w ∈ wAll, w.before _ s = true := fun w h => hts w (List.mem_cons_of_mem _ h)
  have hown : s.vm.findClass R_S = some m.cls := findClass_of_methodNamed B.named
  have hlocks := B.notSynchronized
  subst hsz
  have hD := hD0.self (sz := s.heap.size)
  generalize hAe : va_A [(a4, .inr (2, [.long hi, .long lo, .int ex])), (a5, .inr (2, [.long hi2, .long lo2, .int ex2]))] s.heap.size = A at hD ⊢
  have hA : ∀ q : Nat, s.heap.size ≤ q → A q := fun q h => by rw [← hAe]; exact Or.inr h
  have hS : va_S A s.heap s.heap [] := va_S.rf
  have hP : va_P (dC, dI) classes [(a4, .inr (2, [.long hi, .long lo, .int ex])), (a5, .inr (2, [.long hi2, .long lo2, .int ex2]))] s.heap := hP
  obtain ⟨H, eH⟩ : ∃ z, z = s.heap := ⟨_, rfl⟩
  rw [← eH] at hP
  have hS : va_S A s.heap H [] := by rw [eH]; exact hS
  rw [← eH]
  generalize ([] : List Loc) = locs at hS ⊢
  have hl := lv_entry ([.ref a4, .ref a5]) (n := 3) (Nat.le_of_ble_eq_true rfl)
  rw [lg_entry_eq]
  generalize (lg_sl ([.ref a4, .ref a5]) ++ List.replicate (3 - (lg_sl ([.ref a4, .ref a5])).length) Slot.unset).toArray = ls at hl ⊢
  have hl : lv_has ls 3 [(0, .ref a4), (1, .ref a5)] := hl
  refine lv_aload_n hx hb d_S_subtract_0 rfl (lv_at hl 1 rfl) ?_
  refine lv_aload_n hx hb d_S_subtract_1 rfl (lv_at hl 0 rfl) ?_
  refine va_get (D := (dC, dI)) (ci := 2) (v := .int ex) (C := R_S) (T := F_S) (N := 3) hx hb htA in_S hown hK hP 0 rfl rfl 2 (by decide) (htA _ k_16) (fun _ h9 => h9) rfl d_S_subtract_2 ?_
  refine lv_aload_n hx hb d_S_subtract_5 rfl (lv_at hl 1 rfl) ?_
  refine va_get (D := (dC, dI)) (ci := 2) (v := .int ex2) (C := R_S) (T := F_S) (N := 3) hx hb htA in_S hown hK hP 1 rfl rfl 2 (by decide) (htA _ k_16) (fun _ h9 => h9) rfl d_S_subtract_6 ?_
  refine lv_isub hx hb d_S_subtract_9 ?_
  have hPc := hP.sub (ws' := [(a5, .inr (2, [.long hi2, .long lo2, .int ex2]))]) [1] rfl
  have hDc := hD.sub (ws' := [(a5, .inr (2, [.long hi2, .long lo2, .int ex2]))]) [1] (by decide) rfl
  have hKc := hK.sub (tys' := []) [] rfl
  have hFc := va_free (wc := [(a5, .inr (2, [.long hi2, .long lo2, .int ex2]))]) hD hS hA [1] rfl
  refine cc_v (va_runV (As := [.int (ex - ex2)]) (rest := []) ⟨hx, hb, hml, hown, htA⟩ (c_S_shiftRight l dC dI a5 H.size hi2 lo2 ex2 (ex - ex2)) (cwV 1 htA (gi_V k_53 k_54 k_55 k_36 (gi_code k_52)) rfl rfl rfl (by decide +kernel) ⟨Nat.le_of_ble_eq_true rfl, Nat.le_of_ble_eq_true rfl⟩) (pre_V hnw hPc hKc hDc (ci := 2) (q0 := 0) rfl rfl) rfl rfl hl.1 rfl (lv_room (Nat.le_of_ble_eq_true rfl)) d_S_subtract_10 ⟨Nat.le_of_ble_eq_true rfl, Nat.le_of_ble_eq_true rfl⟩) hS hFc hP hD [1] [0] (wr := [(a4, .inr (2, [.long hi, .long lo, .int ex]))]) rfl rfl (by decide) (by decide) (fun H locs hP hD hS => ?_)
  obtain ⟨z10, ez10⟩ : ∃ z, g_S_shiftRight hi2 lo2 ex2 (ex - ex2) = z := ⟨_, rfl⟩
  rw [ez10] at hP hD
  have hP : va_P (dC, dI) classes [(a4, .inr (2, [.long hi, .long lo, .int ex])), (a5, .inr (2, [.long z10.1, .long z10.2.1, .int z10.2.2]))] H := hP
  have hD : va_D A [(a4, .inr (2, [.long hi, .long lo, .int ex])), (a5, .inr (2, [.long z10.1, .long z10.2.1, .int z10.2.2]))] := hD
  refine lv_aload_n hx hb d_S_subtract_13 rfl (lv_at hl 0 rfl) ?_
  refine va_get (D := (dC, dI)) (ci := 2) (v := .long lo) (C := R_S) (T := F_S) (N := 3) hx hb htA in_S hown hK hP 0 rfl rfl 1 (by decide) (htA _ k_15) (fun _ h9 => h9) rfl d_S_subtract_14 ?_
  refine lv_aload_n hx hb d_S_subtract_17 rfl (lv_at hl 1 rfl) ?_
  refine va_get (D := (dC, dI)) (ci := 2) (v := .long z10.2.1) (C := R_S) (T := F_S) (N := 3) hx hb htA in_S hown hK hP 1 rfl rfl 1 (by decide) (htA _ k_15) (fun _ h9 => h9) rfl d_S_subtract_18 ?_
  have hPc := hP.sub (ws' := []) [] rfl
  have hDc := hD.sub (ws' := []) [] (by decide) rfl
  have hKc := hK.sub (tys' := []) [] rfl
  have hFc := va_free (wc := []) hD hS hA [] rfl
  refine cc_i (va_runS (As := [.long lo, .long z10.2.1]) (rest := []) ⟨hx, hb, hml, hown, htA⟩ (c_Lg_compareUnsigned l dC dI H.size lo z10.2.1) (va_cwS 2 htA (gi_S k_33 k_34 k_2 (gi_code k_5)) rfl rfl rfl (by decide +kernel) ⟨Nat.le_of_ble_eq_true rfl, Nat.le_of_ble_eq_true rfl⟩) (pre_S hnw hPc hKc hDc) rfl rfl hl.1 rfl (lv_room (Nat.le_of_ble_eq_true rfl)) d_S_subtract_21 ⟨Nat.le_of_ble_eq_true rfl, Nat.le_of_ble_eq_true rfl⟩) hS hFc hP hD [] [0, 1] (wr := [(a4, .inr (2, [.long hi, .long lo, .int ex])), (a5, .inr (2, [.long z10.1, .long z10.2.1, .int z10.2.2]))]) rfl rfl (by decide) (by decide) (fun H locs hP hD hS => ?_)
  have hP : va_P (dC, dI) classes [(a4, .inr (2, [.long hi, .long lo, .int ex])), (a5, .inr (2, [.long z10.1, .long z10.2.1, .int z10.2.2]))] H := hP
  have hD : va_D A [(a4, .inr (2, [.long hi, .long lo, .int ex])), (a5, .inr (2, [.long z10.1, .long z10.2.1, .int z10.2.2]))] := hD
  refine cut_join (X := Bool) 0 0 (fun (x : Bool) (H : Heap) (locs : List Loc) (ls : Array Slot) => (if uN z10.2.1 ≤ uN lo then false else true) = x ∧ va_P (dC, dI) classes [(a4, .inr (2, [.long hi, .long lo, .int ex])), (a5, .inr (2, [.long z10.1, .long z10.2.1, .int z10.2.2]))] H ∧ va_D A [(a4, .inr (2, [.long hi, .long lo, .int ex])), (a5, .inr (2, [.long z10.1, .long z10.2.1, .int z10.2.2]))] ∧ va_S A s.heap H locs ∧ lv_has ls 3 [(0, .ref a4), (1, .ref a5)]) (fun x ls => F0 m 32 ls [.int (b2i x)]) ?_ (fun J32 => ?_)
  · skip
    rintro j32_0 H locs ls ⟨ej32_0, hP, hD, hS, hl⟩
    have ej32_0 : (if uN z10.2.1 ≤ uN lo then false else true) = j32_0 := ej32_0
    have hP : va_P (dC, dI) classes [(a4, .inr (2, [.long hi, .long lo, .int ex])), (a5, .inr (2, [.long z10.1, .long z10.2.1, .int z10.2.2]))] H := hP
    have hD : va_D A [(a4, .inr (2, [.long hi, .long lo, .int ex])), (a5, .inr (2, [.long z10.1, .long z10.2.1, .int z10.2.2]))] := hD
    have hl : lv_has ls 3 [(0, .ref a4), (1, .ref a5)] := hl
    refine lv_istore_n (lv' := [(2, .int (b2i j32_0)), (0, .ref a4), (1, .ref a5)]) hx hb d_S_subtract_32 rfl hl (by decide) rfl (fun ls hl => ?_)
    refine lv_aload_n hx hb d_S_subtract_33 rfl (lv_at hl 1 rfl) ?_
    refine lv_dup hx hb d_S_subtract_34 rfl ?_
    refine va_get (D := (dC, dI)) (ci := 2) (v := .long lo) (C := R_S) (T := F_S) (N := 3) hx hb htA in_S hown hK hP 0 rfl rfl 1 (by decide) (htA _ k_15) (fun _ h9 => h9) rfl d_S_subtract_35 ?_
    refine lv_aload_n hx hb d_S_subtract_38 rfl (lv_at hl 2 rfl) ?_
    refine va_get (D := (dC, dI)) (ci := 2) (v := .long z10.2.1) (C := R_S) (T := F_S) (N := 3) hx hb htA in_S hown hK hP 1 rfl rfl 1 (by decide) (htA _ k_15) (fun _ h9 => h9) rfl d_S_subtract_39 ?_
    refine lv_lsub hx hb d_S_subtract_42 ?_
    refine va_put (D := (dC, dI)) (ci := 2) (v := .long (lo - z10.2.1)) (ty := .long) (C := R_S) (T := F_S) (N := 3) hx hb htA in_S t_S t_S_ok n_S hown hK hP hD hS 0 rfl rfl 1 (by decide) (htA _ k_15) (fun _ h9 => h9) rfl (by decide +kernel) rfl rfl (Nat.le_of_ble_eq_true rfl) d_S_subtract_43 (fun H locs hP hD hS => ?_)
    have hP : va_P (dC, dI) classes [(a4, .inr (2, [.long hi, .long (lo - z10.2.1), .int ex])), (a5, .inr (2, [.long z10.1, .long z10.2.1, .int z10.2.2]))] H := hP
    have hD : va_D A [(a4, .inr (2, [.long hi, .long (lo - z10.2.1), .int ex])), (a5, .inr (2, [.long z10.1, .long z10.2.1, .int z10.2.2]))] := hD
    refine lv_aload_n hx hb d_S_subtract_46 rfl (lv_at hl 1 rfl) ?_
    refine lv_dup hx hb d_S_subtract_47 rfl ?_
    refine va_get (D := (dC, dI)) (ci := 2) (v := .long hi) (C := R_S) (T := F_S) (N := 3) hx hb htA in_S hown hK hP 0 rfl rfl 0 (by decide) (htA _ k_14) (fun _ h9 => h9) rfl d_S_subtract_48 ?_
    refine lv_aload_n hx hb d_S_subtract_51 rfl (lv_at hl 2 rfl) ?_
    refine va_get (D := (dC, dI)) (ci := 2) (v := .long z10.1) (C := R_S) (T := F_S) (N := 3) hx hb htA in_S hown hK hP 1 rfl rfl 0 (by decide) (htA _ k_14) (fun _ h9 => h9) rfl d_S_subtract_52 ?_
    refine lv_iload_n hx hb d_S_subtract_55 rfl (lv_at hl 0 rfl) ?_
    refine lv_i2l (v := (b2i j32_0).toInt64) hx hb d_S_subtract_56 rfl ?_
    refine lv_ladd hx hb d_S_subtract_57 ?_
    refine lv_lsub hx hb d_S_subtract_58 ?_
    refine va_put (D := (dC, dI)) (ci := 2) (v := .long (hi - (z10.1 + ((b2i j32_0).toInt64)))) (ty := .long) (C := R_S) (T := F_S) (N := 3) hx hb htA in_S t_S t_S_ok n_S hown hK hP hD hS 0 rfl rfl 0 (by decide) (htA _ k_14) (fun _ h9 => h9) rfl (by decide +kernel) rfl rfl (Nat.le_of_ble_eq_true rfl) d_S_subtract_59 (fun H locs hP hD hS => ?_)
    have hP : va_P (dC, dI) classes [(a4, .inr (2, [.long (hi - (z10.1 + ((b2i j32_0).toInt64))), .long (lo - z10.2.1), .int ex])), (a5, .inr (2, [.long z10.1, .long z10.2.1, .int z10.2.2]))] H := hP
    have hD : va_D A [(a4, .inr (2, [.long (hi - (z10.1 + ((b2i j32_0).toInt64))), .long (lo - z10.2.1), .int ex])), (a5, .inr (2, [.long z10.1, .long z10.2.1, .int z10.2.2]))] := hD
    refine lv_aload_n hx hb d_S_subtract_62 rfl (lv_at hl 1 rfl) ?_
    have hPc := hP.sub (ws' := [(a4, .inr (2, [.long (hi - (z10.1 + ((b2i j32_0).toInt64))), .long (lo - z10.2.1), .int ex]))]) [0] rfl
    have hDc := hD.sub (ws' := [(a4, .inr (2, [.long (hi - (z10.1 + ((b2i j32_0).toInt64))), .long (lo - z10.2.1), .int ex]))]) [0] (by decide) rfl
    have hKc := hK.sub (tys' := []) [] rfl
    have hFc := va_free (wc := [(a4, .inr (2, [.long (hi - (z10.1 + ((b2i j32_0).toInt64))), .long (lo - z10.2.1), .int ex]))]) hD hS hA [0] rfl
    refine cc_v (va_runV (As := []) (rest := []) ⟨hx, hb, hml, hown, htA⟩ (c_S_normalize l dC dI a4 H.size (hi - (z10.1 + ((b2i j32_0).toInt64))) (lo - z10.2.1) ex) (cwV 0 htA (gi_V k_45 k_46 k_47 k_36 (gi_code k_40)) rfl rfl rfl (by decide +kernel) ⟨Nat.le_of_ble_eq_true rfl, Nat.le_of_ble_eq_true rfl⟩) (pre_V hnw hPc hKc hDc (ci := 2) (q0 := 0) rfl rfl) rfl rfl hl.1 rfl (lv_room (Nat.le_of_ble_eq_true rfl)) d_S_subtract_63 ⟨Nat.le_of_ble_eq_true rfl, Nat.le_of_ble_eq_true rfl⟩) hS hFc hP hD [0] [1] (wr := [(a5, .inr (2, [.long z10.1, .long z10.2.1, .int z10.2.2]))]) rfl rfl (by decide) (by decide) (fun H locs hP hD hS => ?_)
    obtain ⟨z63, ez63⟩ : ∃ z, g_S_normalize (hi - (z10.1 + ((b2i j32_0).toInt64))) (lo - z10.2.1) ex = z := ⟨_, rfl⟩
    rw [ez63] at hP hD
    have hP : va_P (dC, dI) classes [(a5, .inr (2, [.long z10.1, .long z10.2.1, .int z10.2.2])), (a4, .inr (2, [.long z63.1, .long z63.2.1, .int z63.2.2]))] H := hP
    have hD : va_D A [(a5, .inr (2, [.long z10.1, .long z10.2.1, .int z10.2.2])), (a4, .inr (2, [.long z63.1, .long z63.2.1, .int z63.2.2]))] := hD
    have hE : g_S_subtract hi lo ex hi2 lo2 ex2 = (z63.1, z63.2.1, z63.2.2, z10.1, z10.2.1, z10.2.2) := by clear hP hD hl hS; subst ez63; subst ej32_0; subst ez10; unfold g_S_subtract; rfl
    have hP9 : va_P (dC, dI) classes [(a4, .inr (2, [.long ((g_S_subtract hi lo ex hi2 lo2 ex2).1), .long ((g_S_subtract hi lo ex hi2 lo2 ex2).2.1), .int ((g_S_subtract hi lo ex hi2 lo2 ex2).2.2.1)])), (a5, .inr (2, [.long ((g_S_subtract hi lo ex hi2 lo2 ex2).2.2.2.1), .long ((g_S_subtract hi lo ex hi2 lo2 ex2).2.2.2.2.1), .int ((g_S_subtract hi lo ex hi2 lo2 ex2).2.2.2.2.2)]))] H := by rw [hE]; exact hP.sub [1, 0] rfl
    have hD9 : va_D A [(a4, .inr (2, [.long ((g_S_subtract hi lo ex hi2 lo2 ex2).1), .long ((g_S_subtract hi lo ex hi2 lo2 ex2).2.1), .int ((g_S_subtract hi lo ex hi2 lo2 ex2).2.2.1)])), (a5, .inr (2, [.long ((g_S_subtract hi lo ex hi2 lo2 ex2).2.2.2.1), .long ((g_S_subtract hi lo ex hi2 lo2 ex2).2.2.2.2.1), .int ((g_S_subtract hi lo ex hi2 lo2 ex2).2.2.2.2.2)]))] := by rw [hE]; exact hD.sub [1, 0] (by decide) rfl
    exact W.vret hx hb hr (fun t ht hW => ⟨⟨(), rfl, trivial, by rw [ht]; exact hP9, hD9⟩, hS.F ht⟩) hS.2.2 d_S_subtract_66
  · skip
    refine lv_if_ge (tgt := 31) hx hb d_S_subtract_24 (by decide) (fun c_24 => ?_) (fun c_24 => ?_)
    · skip
      have c_24 : uN z10.2.1 ≤ uN lo := (cU_ge _ _).mp c_24
      refine lv_iconst (v := 0) hx hb d_S_subtract_31 (by decide) ?_
      exact J32 (false) H locs ls ⟨by clear hP hD hl hS; (try dsimp only); rw [if_pos c_24], hP.sub [0, 1] rfl, hD.sub [0, 1] (by decide) rfl, hS, lv_sub hl [0, 1] rfl⟩
    · skip
      have c_24 : ¬ uN z10.2.1 ≤ uN lo := fun h9 => c_24 ((cU_ge _ _).mpr h9)
      refine lv_iconst (v := 1) hx hb d_S_subtract_27 (by decide) ?_
      refine lv_goto (tgt := 32) hx hb d_S_subtract_28 (by decide) ?_
      exact J32 (true) H locs ls ⟨by clear hP hD hl hS; (try dsimp only); rw [if_neg c_24], hP.sub [0, 1] rfl, hD.sub [0, 1] (by decide) rfl, hS, lv_sub hl [0, 1] rfl⟩
theorem d_S_takeProduct_0 : decode b_S_takeProduct 0 = .ok (.lload_n 1, 1) := by decide +kernel
theorem d_S_takeProduct_1 : decode b_S_takeProduct 1 = .ok (.bipush 32, 2) := by decide +kernel
theorem d_S_takeProduct_3 : decode b_S_takeProduct 3 = .ok (.lushr, 1) := by decide +kernel
theorem d_S_takeProduct_4 : decode b_S_takeProduct 4 = .ok (.lstore 5, 2) := by decide +kernel
theorem d_S_takeProduct_6 : decode b_S_takeProduct 6 = .ok (.lload_n 1, 1) := by decide +kernel
theorem d_S_takeProduct_7 : decode b_S_takeProduct 7 = .ok (.ldc2_w 60, 3) := by decide +kernel
theorem d_S_takeProduct_10 : decode b_S_takeProduct 10 = .ok (.land, 1) := by decide +kernel
theorem d_S_takeProduct_11 : decode b_S_takeProduct 11 = .ok (.lstore 7, 2) := by decide +kernel
theorem d_S_takeProduct_13 : decode b_S_takeProduct 13 = .ok (.lload_n 3, 1) := by decide +kernel
theorem d_S_takeProduct_14 : decode b_S_takeProduct 14 = .ok (.bipush 32, 2) := by decide +kernel
theorem d_S_takeProduct_16 : decode b_S_takeProduct 16 = .ok (.lushr, 1) := by decide +kernel
theorem d_S_takeProduct_17 : decode b_S_takeProduct 17 = .ok (.lstore 9, 2) := by decide +kernel
theorem d_S_takeProduct_19 : decode b_S_takeProduct 19 = .ok (.lload_n 3, 1) := by decide +kernel
theorem d_S_takeProduct_20 : decode b_S_takeProduct 20 = .ok (.ldc2_w 60, 3) := by decide +kernel
theorem d_S_takeProduct_23 : decode b_S_takeProduct 23 = .ok (.land, 1) := by decide +kernel
theorem d_S_takeProduct_24 : decode b_S_takeProduct 24 = .ok (.lstore 11, 2) := by decide +kernel
theorem d_S_takeProduct_26 : decode b_S_takeProduct 26 = .ok (.lload 7, 2) := by decide +kernel
theorem d_S_takeProduct_28 : decode b_S_takeProduct 28 = .ok (.lload 11, 2) := by decide +kernel
theorem d_S_takeProduct_30 : decode b_S_takeProduct 30 = .ok (.lmul, 1) := by decide +kernel
theorem d_S_takeProduct_31 : decode b_S_takeProduct 31 = .ok (.lstore 13, 2) := by decide +kernel
theorem d_S_takeProduct_33 : decode b_S_takeProduct 33 = .ok (.lload 5, 2) := by decide +kernel
theorem d_S_takeProduct_35 : decode b_S_takeProduct 35 = .ok (.lload 11, 2) := by decide +kernel
theorem d_S_takeProduct_37 : decode b_S_takeProduct 37 = .ok (.lmul, 1) := by decide +kernel
theorem d_S_takeProduct_38 : decode b_S_takeProduct 38 = .ok (.lload 13, 2) := by decide +kernel
theorem d_S_takeProduct_40 : decode b_S_takeProduct 40 = .ok (.bipush 32, 2) := by decide +kernel
theorem d_S_takeProduct_42 : decode b_S_takeProduct 42 = .ok (.lushr, 1) := by decide +kernel
theorem d_S_takeProduct_43 : decode b_S_takeProduct 43 = .ok (.ladd, 1) := by decide +kernel
theorem d_S_takeProduct_44 : decode b_S_takeProduct 44 = .ok (.lstore 15, 2) := by decide +kernel
theorem d_S_takeProduct_46 : decode b_S_takeProduct 46 = .ok (.lload 7, 2) := by decide +kernel
theorem d_S_takeProduct_48 : decode b_S_takeProduct 48 = .ok (.lload 9, 2) := by decide +kernel
theorem d_S_takeProduct_50 : decode b_S_takeProduct 50 = .ok (.lmul, 1) := by decide +kernel
theorem d_S_takeProduct_51 : decode b_S_takeProduct 51 = .ok (.lload 15, 2) := by decide +kernel
theorem d_S_takeProduct_53 : decode b_S_takeProduct 53 = .ok (.ldc2_w 60, 3) := by decide +kernel
theorem d_S_takeProduct_56 : decode b_S_takeProduct 56 = .ok (.land, 1) := by decide +kernel
theorem d_S_takeProduct_57 : decode b_S_takeProduct 57 = .ok (.ladd, 1) := by decide +kernel
theorem d_S_takeProduct_58 : decode b_S_takeProduct 58 = .ok (.lstore 17, 2) := by decide +kernel
theorem d_S_takeProduct_60 : decode b_S_takeProduct 60 = .ok (.aload_n 0, 1) := by decide +kernel
theorem d_S_takeProduct_61 : decode b_S_takeProduct 61 = .ok (.lload 5, 2) := by decide +kernel
theorem d_S_takeProduct_63 : decode b_S_takeProduct 63 = .ok (.lload 9, 2) := by decide +kernel
theorem d_S_takeProduct_65 : decode b_S_takeProduct 65 = .ok (.lmul, 1) := by decide +kernel
theorem d_S_takeProduct_66 : decode b_S_takeProduct 66 = .ok (.lload 15, 2) := by decide +kernel
theorem d_S_takeProduct_68 : decode b_S_takeProduct 68 = .ok (.bipush 32, 2) := by decide +kernel
theorem d_S_takeProduct_70 : decode b_S_takeProduct 70 = .ok (.lushr, 1) := by decide +kernel
theorem d_S_takeProduct_71 : decode b_S_takeProduct 71 = .ok (.ladd, 1) := by decide +kernel
theorem d_S_takeProduct_72 : decode b_S_takeProduct 72 = .ok (.lload 17, 2) := by decide +kernel
theorem d_S_takeProduct_74 : decode b_S_takeProduct 74 = .ok (.bipush 32, 2) := by decide +kernel
theorem d_S_takeProduct_76 : decode b_S_takeProduct 76 = .ok (.lushr, 1) := by decide +kernel
theorem d_S_takeProduct_77 : decode b_S_takeProduct 77 = .ok (.ladd, 1) := by decide +kernel
theorem d_S_takeProduct_78 : decode b_S_takeProduct 78 = .ok (.putfield 9, 3) := by decide +kernel
theorem d_S_takeProduct_81 : decode b_S_takeProduct 81 = .ok (.aload_n 0, 1) := by decide +kernel
theorem d_S_takeProduct_82 : decode b_S_takeProduct 82 = .ok (.lload 17, 2) := by decide +kernel
theorem d_S_takeProduct_84 : decode b_S_takeProduct 84 = .ok (.bipush 32, 2) := by decide +kernel
theorem d_S_takeProduct_86 : decode b_S_takeProduct 86 = .ok (.lshl, 1) := by decide +kernel
theorem d_S_takeProduct_87 : decode b_S_takeProduct 87 = .ok (.lload 13, 2) := by decide +kernel
theorem d_S_takeProduct_89 : decode b_S_takeProduct 89 = .ok (.ldc2_w 60, 3) := by decide +kernel
theorem d_S_takeProduct_92 : decode b_S_takeProduct 92 = .ok (.land, 1) := by decide +kernel
theorem d_S_takeProduct_93 : decode b_S_takeProduct 93 = .ok (.lor, 1) := by decide +kernel
theorem d_S_takeProduct_94 : decode b_S_takeProduct 94 = .ok (.putfield 15, 3) := by decide +kernel
theorem d_S_takeProduct_97 : decode b_S_takeProduct 97 = .ok (.return_, 1) := by decide +kernel
set_option maxHeartbeats 4000000 in
set_option maxRecDepth 100000 in
theorem c_S_takeProduct (l : Launch) (dC : Nat → ClassId) (dI : Nat → Nat → Nat) (a4 : Nat) (sz : Nat) (hi : Int64) (lo : Int64) (ex : Int32) (ja : Int64) (jb : Int64) : Met l y_S_takeProduct w_S_takeProduct ({ frames := 0, cells := 0, slots := 0, locals := 0 }) (cPc (dC, dI) [] [.ref a4, .long ja, .long jb] [(a4, .inr (2, [.long hi, .long lo, .int ex]))] sz) (va_Qv (fun (_ : Unit) => True) (fun _ t => va_P (dC, dI) classes [(a4, .inr (2, [.long ((g_S_takeProduct ja jb).1), .long ((g_S_takeProduct ja jb).2), .int ex]))] t.heap ∧ va_D (va_A [(a4, .inr (2, [.long hi, .long lo, .int ex]))] sz) [(a4, .inr (2, [.long ((g_S_takeProduct ja jb).1), .long ((g_S_takeProduct ja jb).2), .int ex]))]) (va_A [(a4, .inr (2, [.long hi, .long lo, .int ex]))] sz)) 0 0 (va_A [(a4, .inr (2, [.long hi, .long lo, .int ex]))] sz) := by
  refine Met.ofW (cc := b_S_takeProduct) (maxL := 19) (ret := none) (by decide) rfl ?_
  intro p e s m args below meth c s₁ B hml hv
  obtain ⟨rfl, hsz, hP, hK, hD0, hnw⟩ := hv
  have hx := B.exec
  have hb := B.bytes
  have hr := B.returns
  have hts := atoms_spec (ws := w_S_takeProduct) B.pre
  have htA : ∀ w ∈ wAll, w.before _ s = true := fun w h => hts w (List.mem_cons_of_mem _ h)
  have hown : s.vm.findClass R_S = some m.cls := findClass_of_methodNamed B.named
  have hlocks := B.notSynchronized
  subst hsz
  have hD := hD0.self (sz := s.heap.size)
  generalize hAe : va_A [(a4, .inr (2, [.long hi, .long lo, .int ex]))] s.heap.size = A at hD ⊢
  have hA : ∀ q : Nat, s.heap.size ≤ q → A q := fun q h => by rw [← hAe]; exact Or.inr h
  have hS : va_S A s.heap s.heap [] := va_S.rf
  have hP : va_P (dC, dI) classes [(a4, .inr (2, [.long hi, .long lo, .int ex]))] s.heap := hP
  obtain ⟨H, eH⟩ : ∃ z, z = s.heap := ⟨_, rfl⟩
  rw [← eH] at hP
  have hS : va_S A s.heap H [] := by rw [eH]; exact hS
  rw [← eH]
  generalize ([] : List Loc) = locs at hS ⊢
  have hl := lv_entry ([.ref a4, .long ja, .long jb]) (n := 19) (Nat.le_of_ble_eq_true rfl)
  rw [lg_entry_eq]
  generalize (lg_sl ([.ref a4, .long ja, .long jb]) ++ List.replicate (19 - (lg_sl ([.ref a4, .long ja, .long jb])).length) Slot.unset).toArray = ls at hl ⊢
  have hl : lv_has ls 19 [(0, .ref a4), (1, .long ja), (3, .long jb)] := hl
  refine lv_lload_n hx hb d_S_takeProduct_0 rfl (lv_at hl 1 rfl) ?_
  refine lv_bipush (v := 32) hx hb d_S_takeProduct_1 (by decide) ?_
  refine lv_lushr (v := (uR ja 32)) hx hb d_S_takeProduct_3 rfl ?_
  refine lv_lstore (lv' := [(5, .long (uR ja 32)), (0, .ref a4), (1, .long ja), (3, .long jb)]) hx hb d_S_takeProduct_4 hl (by decide) rfl (fun ls hl => ?_)
  refine lv_lload_n hx hb d_S_takeProduct_6 rfl (lv_at hl 2 rfl) ?_
  refine lv_ldc2 (v := 4294967295) hx hb hown (htA _ k_58) d_S_takeProduct_7 ?_
  refine lv_land hx hb d_S_takeProduct_10 ?_
  refine lv_lstore (lv' := [(7, .long (ja &&& 4294967295)), (5, .long (uR ja 32)), (0, .ref a4), (1, .long ja), (3, .long jb)]) hx hb d_S_takeProduct_11 hl (by decide) rfl (fun ls hl => ?_)
  refine lv_lload_n hx hb d_S_takeProduct_13 rfl (lv_at hl 4 rfl) ?_
  refine lv_bipush (v := 32) hx hb d_S_takeProduct_14 (by decide) ?_
  refine lv_lushr (v := (uR jb 32)) hx hb d_S_takeProduct_16 rfl ?_
  refine lv_lstore (lv' := [(9, .long (uR jb 32)), (7, .long (ja &&& 4294967295)), (5, .long (uR ja 32)), (0, .ref a4), (1, .long ja), (3, .long jb)]) hx hb d_S_takeProduct_17 hl (by decide) rfl (fun ls hl => ?_)
  refine lv_lload_n hx hb d_S_takeProduct_19 rfl (lv_at hl 5 rfl) ?_
  refine lv_ldc2 (v := 4294967295) hx hb hown (htA _ k_58) d_S_takeProduct_20 ?_
  refine lv_land hx hb d_S_takeProduct_23 ?_
  refine lv_lstore (lv' := [(11, .long (jb &&& 4294967295)), (9, .long (uR jb 32)), (7, .long (ja &&& 4294967295)), (5, .long (uR ja 32)), (0, .ref a4), (1, .long ja), (3, .long jb)]) hx hb d_S_takeProduct_24 hl (by decide) rfl (fun ls hl => ?_)
  refine lv_lload hx hb d_S_takeProduct_26 (lv_at hl 2 rfl) ?_
  refine lv_lload hx hb d_S_takeProduct_28 (lv_at hl 0 rfl) ?_
  refine lv_lmul hx hb d_S_takeProduct_30 ?_
  refine lv_lstore (lv' := [(13, .long ((ja &&& 4294967295) * (jb &&& 4294967295))), (11, .long (jb &&& 4294967295)), (9, .long (uR jb 32)), (7, .long (ja &&& 4294967295)), (5, .long (uR ja 32)), (0, .ref a4), (1, .long ja), (3, .long jb)]) hx hb d_S_takeProduct_31 hl (by decide) rfl (fun ls hl => ?_)
  refine lv_lload hx hb d_S_takeProduct_33 (lv_at hl 4 rfl) ?_
  refine lv_lload hx hb d_S_takeProduct_35 (lv_at hl 1 rfl) ?_
  refine lv_lmul hx hb d_S_takeProduct_37 ?_
  refine lv_lload hx hb d_S_takeProduct_38 (lv_at hl 0 rfl) ?_
  refine lv_bipush (v := 32) hx hb d_S_takeProduct_40 (by decide) ?_
  refine lv_lushr (v := (uR ((ja &&& 4294967295) * (jb &&& 4294967295)) 32)) hx hb d_S_takeProduct_42 rfl ?_
  refine lv_ladd hx hb d_S_takeProduct_43 ?_
  refine lv_lstore (lv' := [(15, .long (((uR ja 32) * (jb &&& 4294967295)) + (uR ((ja &&& 4294967295) * (jb &&& 4294967295)) 32))), (13, .long ((ja &&& 4294967295) * (jb &&& 4294967295))), (11, .long (jb &&& 4294967295)), (9, .long (uR jb 32)), (7, .long (ja &&& 4294967295)), (5, .long (uR ja 32)), (0, .ref a4), (1, .long ja), (3, .long jb)]) hx hb d_S_takeProduct_44 hl (by decide) rfl (fun ls hl => ?_)
  refine lv_lload hx hb d_S_takeProduct_46 (lv_at hl 4 rfl) ?_
  refine lv_lload hx hb d_S_takeProduct_48 (lv_at hl 3 rfl) ?_
  refine lv_lmul hx hb d_S_takeProduct_50 ?_
  refine lv_lload hx hb d_S_takeProduct_51 (lv_at hl 0 rfl) ?_
  refine lv_ldc2 (v := 4294967295) hx hb hown (htA _ k_58) d_S_takeProduct_53 ?_
  refine lv_land hx hb d_S_takeProduct_56 ?_
  refine lv_ladd hx hb d_S_takeProduct_57 ?_
  refine lv_lstore (lv' := [(17, .long (((ja &&& 4294967295) * (uR jb 32)) + ((((uR ja 32) * (jb &&& 4294967295)) + (uR ((ja &&& 4294967295) * (jb &&& 4294967295)) 32)) &&& 4294967295))), (15, .long (((uR ja 32) * (jb &&& 4294967295)) + (uR ((ja &&& 4294967295) * (jb &&& 4294967295)) 32))), (13, .long ((ja &&& 4294967295) * (jb &&& 4294967295))), (11, .long (jb &&& 4294967295)), (9, .long (uR jb 32)), (7, .long (ja &&& 4294967295)), (5, .long (uR ja 32)), (0, .ref a4), (1, .long ja), (3, .long jb)]) hx hb d_S_takeProduct_58 hl (by decide) rfl (fun ls hl => ?_)
  refine lv_aload_n hx hb d_S_takeProduct_60 rfl (lv_at hl 7 rfl) ?_
  refine lv_lload hx hb d_S_takeProduct_61 (lv_at hl 6 rfl) ?_
  refine lv_lload hx hb d_S_takeProduct_63 (lv_at hl 4 rfl) ?_
  refine lv_lmul hx hb d_S_takeProduct_65 ?_
  refine lv_lload hx hb d_S_takeProduct_66 (lv_at hl 1 rfl) ?_
  refine lv_bipush (v := 32) hx hb d_S_takeProduct_68 (by decide) ?_
  refine lv_lushr (v := (uR (((uR ja 32) * (jb &&& 4294967295)) + (uR ((ja &&& 4294967295) * (jb &&& 4294967295)) 32)) 32)) hx hb d_S_takeProduct_70 rfl ?_
  refine lv_ladd hx hb d_S_takeProduct_71 ?_
  refine lv_lload hx hb d_S_takeProduct_72 (lv_at hl 0 rfl) ?_
  refine lv_bipush (v := 32) hx hb d_S_takeProduct_74 (by decide) ?_
  refine lv_lushr (v := (uR (((ja &&& 4294967295) * (uR jb 32)) + ((((uR ja 32) * (jb &&& 4294967295)) + (uR ((ja &&& 4294967295) * (jb &&& 4294967295)) 32)) &&& 4294967295)) 32)) hx hb d_S_takeProduct_76 rfl ?_
  refine lv_ladd hx hb d_S_takeProduct_77 ?_
  refine va_put (D := (dC, dI)) (ci := 2) (v := .long ((((uR ja 32) * (uR jb 32)) + (uR (((uR ja 32) * (jb &&& 4294967295)) + (uR ((ja &&& 4294967295) * (jb &&& 4294967295)) 32)) 32)) + (uR (((ja &&& 4294967295) * (uR jb 32)) + ((((uR ja 32) * (jb &&& 4294967295)) + (uR ((ja &&& 4294967295) * (jb &&& 4294967295)) 32)) &&& 4294967295)) 32))) (ty := .long) (C := R_S) (T := F_S) (N := 3) hx hb htA in_S t_S t_S_ok n_S hown hK hP hD hS 0 rfl rfl 0 (by decide) (htA _ k_14) (fun _ h9 => h9) rfl (by decide +kernel) rfl rfl (Nat.le_of_ble_eq_true rfl) d_S_takeProduct_78 (fun H locs hP hD hS => ?_)
  have hP : va_P (dC, dI) classes [(a4, .inr (2, [.long ((((uR ja 32) * (uR jb 32)) + (uR (((uR ja 32) * (jb &&& 4294967295)) + (uR ((ja &&& 4294967295) * (jb &&& 4294967295)) 32)) 32)) + (uR (((ja &&& 4294967295) * (uR jb 32)) + ((((uR ja 32) * (jb &&& 4294967295)) + (uR ((ja &&& 4294967295) * (jb &&& 4294967295)) 32)) &&& 4294967295)) 32)), .long lo, .int ex]))] H := hP
  have hD : va_D A [(a4, .inr (2, [.long ((((uR ja 32) * (uR jb 32)) + (uR (((uR ja 32) * (jb &&& 4294967295)) + (uR ((ja &&& 4294967295) * (jb &&& 4294967295)) 32)) 32)) + (uR (((ja &&& 4294967295) * (uR jb 32)) + ((((uR ja 32) * (jb &&& 4294967295)) + (uR ((ja &&& 4294967295) * (jb &&& 4294967295)) 32)) &&& 4294967295)) 32)), .long lo, .int ex]))] := hD
  refine lv_aload_n hx hb d_S_takeProduct_81 rfl (lv_at hl 7 rfl) ?_
  refine lv_lload hx hb d_S_takeProduct_82 (lv_at hl 0 rfl) ?_
  refine lv_bipush (v := 32) hx hb d_S_takeProduct_84 (by decide) ?_
  refine lv_lshl (v := (sL (((ja &&& 4294967295) * (uR jb 32)) + ((((uR ja 32) * (jb &&& 4294967295)) + (uR ((ja &&& 4294967295) * (jb &&& 4294967295)) 32)) &&& 4294967295)) 32)) hx hb d_S_takeProduct_86 rfl ?_
  refine lv_lload hx hb d_S_takeProduct_87 (lv_at hl 2 rfl) ?_
  refine lv_ldc2 (v := 4294967295) hx hb hown (htA _ k_58) d_S_takeProduct_89 ?_
  refine lv_land hx hb d_S_takeProduct_92 ?_
  refine lv_lor hx hb d_S_takeProduct_93 ?_
  refine va_put (D := (dC, dI)) (ci := 2) (v := .long ((sL (((ja &&& 4294967295) * (uR jb 32)) + ((((uR ja 32) * (jb &&& 4294967295)) + (uR ((ja &&& 4294967295) * (jb &&& 4294967295)) 32)) &&& 4294967295)) 32) ||| (((ja &&& 4294967295) * (jb &&& 4294967295)) &&& 4294967295))) (ty := .long) (C := R_S) (T := F_S) (N := 3) hx hb htA in_S t_S t_S_ok n_S hown hK hP hD hS 0 rfl rfl 1 (by decide) (htA _ k_15) (fun _ h9 => h9) rfl (by decide +kernel) rfl rfl (Nat.le_of_ble_eq_true rfl) d_S_takeProduct_94 (fun H locs hP hD hS => ?_)
  have hP : va_P (dC, dI) classes [(a4, .inr (2, [.long ((((uR ja 32) * (uR jb 32)) + (uR (((uR ja 32) * (jb &&& 4294967295)) + (uR ((ja &&& 4294967295) * (jb &&& 4294967295)) 32)) 32)) + (uR (((ja &&& 4294967295) * (uR jb 32)) + ((((uR ja 32) * (jb &&& 4294967295)) + (uR ((ja &&& 4294967295) * (jb &&& 4294967295)) 32)) &&& 4294967295)) 32)), .long ((sL (((ja &&& 4294967295) * (uR jb 32)) + ((((uR ja 32) * (jb &&& 4294967295)) + (uR ((ja &&& 4294967295) * (jb &&& 4294967295)) 32)) &&& 4294967295)) 32) ||| (((ja &&& 4294967295) * (jb &&& 4294967295)) &&& 4294967295)), .int ex]))] H := hP
  have hD : va_D A [(a4, .inr (2, [.long ((((uR ja 32) * (uR jb 32)) + (uR (((uR ja 32) * (jb &&& 4294967295)) + (uR ((ja &&& 4294967295) * (jb &&& 4294967295)) 32)) 32)) + (uR (((ja &&& 4294967295) * (uR jb 32)) + ((((uR ja 32) * (jb &&& 4294967295)) + (uR ((ja &&& 4294967295) * (jb &&& 4294967295)) 32)) &&& 4294967295)) 32)), .long ((sL (((ja &&& 4294967295) * (uR jb 32)) + ((((uR ja 32) * (jb &&& 4294967295)) + (uR ((ja &&& 4294967295) * (jb &&& 4294967295)) 32)) &&& 4294967295)) 32) ||| (((ja &&& 4294967295) * (jb &&& 4294967295)) &&& 4294967295)), .int ex]))] := hD
  have hE : g_S_takeProduct ja jb = (((((uR ja 32) * (uR jb 32)) + (uR (((uR ja 32) * (jb &&& 4294967295)) + (uR ((ja &&& 4294967295) * (jb &&& 4294967295)) 32)) 32)) + (uR (((ja &&& 4294967295) * (uR jb 32)) + ((((uR ja 32) * (jb &&& 4294967295)) + (uR ((ja &&& 4294967295) * (jb &&& 4294967295)) 32)) &&& 4294967295)) 32)), ((sL (((ja &&& 4294967295) * (uR jb 32)) + ((((uR ja 32) * (jb &&& 4294967295)) + (uR ((ja &&& 4294967295) * (jb &&& 4294967295)) 32)) &&& 4294967295)) 32) ||| (((ja &&& 4294967295) * (jb &&& 4294967295)) &&& 4294967295))) := by clear hP hD hl hS; unfold g_S_takeProduct; rfl
  have hP9 : va_P (dC, dI) classes [(a4, .inr (2, [.long ((g_S_takeProduct ja jb).1), .long ((g_S_takeProduct ja jb).2), .int ex]))] H := by rw [hE]; exact hP.sub [0] rfl
  have hD9 : va_D A [(a4, .inr (2, [.long ((g_S_takeProduct ja jb).1), .long ((g_S_takeProduct ja jb).2), .int ex]))] := by rw [hE]; exact hD.sub [0] (by decide) rfl
  exact W.vret hx hb hr (fun t ht hW => ⟨⟨(), rfl, trivial, by rw [ht]; exact hP9, hD9⟩, hS.F ht⟩) hS.2.2 d_S_takeProduct_97
