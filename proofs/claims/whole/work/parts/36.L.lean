theorem d_L_control_0 : decode b_L_control 0 = .ok (.aload_n 0, 1) := by decide +kernel
theorem d_L_control_1 : decode b_L_control 1 = .ok (.iload_n 1, 1) := by decide +kernel
theorem d_L_control_2 : decode b_L_control 2 = .ok (.invokevirtual 7, 3) := by decide +kernel
theorem d_L_control_8 : decode b_L_control 8 = .ok (.astore_n 2, 1) := by decide +kernel
theorem d_L_control_9 : decode b_L_control 9 = .ok (.iconst 1, 1) := by decide +kernel
theorem d_L_control_10 : decode b_L_control 10 = .ok (.ireturn, 1) := by decide +kernel
theorem d_L_control_5 : decode b_L_control 5 = .ok (.goto 6, 3) := by decide +kernel
theorem d_L_control_11 : decode b_L_control 11 = .ok (.iconst 0, 1) := by decide +kernel
theorem d_L_control_12 : decode b_L_control 12 = .ok (.ireturn, 1) := by decide +kernel
set_option maxHeartbeats 4000000 in
set_option maxRecDepth 100000 in
theorem c_L_control (l : Launch) (hl9 : l.stackTraces = false) (dC : Nat → ClassId) (dI : Nat → Nat → Nat) (aO : Nat) (aT : Nat) (aF : Nat) (a1 : Nat) (a2 : Nat) (a3 : Nat) (a4 : Nat) (a5 : Nat) (sz : Nat) (cw : Int32) (ts : Int32) (iw : Int32) : Met l y_L_control w_L_control ({ frames := 7, cells := 1, slots := 6, locals := 131 }) (cPl (dC, dI) [] [.ref aO, .int iw] [(aO, .inr (0, [.ref aT, .ref aF, .int cw, .int ts, .ref a1, .ref a2, .ref a3, .ref a4, .ref a5]))] sz) (va_Qi (fun (r : Int32) (_ : Unit) => r = (g_L_control cw iw).1) (fun _ t => va_P (dC, dI) classes [(aO, .inr (0, [.ref aT, .ref aF, .int ((g_L_control cw iw).2), .int ts, .ref a1, .ref a2, .ref a3, .ref a4, .ref a5]))] t.heap ∧ va_D (va_A [(aO, .inr (0, [.ref aT, .ref aF, .int cw, .int ts, .ref a1, .ref a2, .ref a3, .ref a4, .ref a5]))] sz) [(aO, .inr (0, [.ref aT, .ref aF, .int ((g_L_control cw iw).2), .int ts, .ref a1, .ref a2, .ref a3, .ref a4, .ref a5]))]) (va_A [(aO, .inr (0, [.ref aT, .ref aF, .int cw, .int ts, .ref a1, .ref a2, .ref a3, .ref a4, .ref a5]))] sz)) 1 6 (va_A [(aO, .inr (0, [.ref aT, .ref aF, .int cw, .int ts, .ref a1, .ref a2, .ref a3, .ref a4, .ref a5]))] sz) := by
  refine va_MetW (cc := b_L_control) (maxL := 3) (ret := (some .int)) (hh := [(0, 5, 8, 13)]) (by decide) rfl ?_
  intro p e s m args below meth c s₁ B hml hv
  obtain ⟨rfl, hsz, hP, hK, hD0, hnw, hZU, hZN, hsw, hnc⟩ := hv
  have hx := B.exec
  have hb := B.bytes
  have hr := B.returns
  have hts := atoms_spec (ws := w_L_control) B.pre
  have htA : ∀ w ∈ wAll, w.before _ s = true := fun w h => hts w (List.mem_cons_of_mem _ h)
  have htab := vx_table (x := y_L_control) B (hts _ List.mem_cons_self)
  have hown : s.vm.findClass R_L = some m.cls := findClass_of_methodNamed B.named
  have hlocks := B.notSynchronized
  subst hsz
  have hD := hD0.self (sz := s.heap.size)
  generalize hAe : va_A [(aO, .inr (0, [.ref aT, .ref aF, .int cw, .int ts, .ref a1, .ref a2, .ref a3, .ref a4, .ref a5]))] s.heap.size = A at hD hZU hZN ⊢
  have hA : ∀ q : Nat, s.heap.size ≤ q → A q := fun q h => by rw [← hAe]; exact Or.inr h
  have hS : va_S A s.heap s.heap [] := va_S.rf
  have hP : va_P (dC, dI) classes [(aO, .inr (0, [.ref aT, .ref aF, .int cw, .int ts, .ref a1, .ref a2, .ref a3, .ref a4, .ref a5]))] s.heap := hP
  obtain ⟨H, eH⟩ : ∃ z, z = s.heap := ⟨_, rfl⟩
  rw [← eH] at hP
  have hS : va_S A s.heap H [] := by rw [eH]; exact hS
  rw [← eH]
  generalize ([] : List Loc) = locs at hS ⊢
  have hl := lv_entry ([.ref aO, .int iw]) (n := 3) (Nat.le_of_ble_eq_true rfl)
  rw [lg_entry_eq]
  generalize (lg_sl ([.ref aO, .int iw]) ++ List.replicate (3 - (lg_sl ([.ref aO, .int iw])).length) Slot.unset).toArray = ls at hl ⊢
  have hl : lv_has ls 3 [(0, .ref aO), (1, .int iw)] := hl
  refine lv_aload_n hx hb d_L_control_0 rfl (lv_at hl 0 rfl) ?_
  refine lv_iload_n hx hb d_L_control_1 rfl (lv_at hl 1 rfl) ?_
  have hPc := hP.sub (ws' := [(aO, .inr (0, [.ref aT, .ref aF, .int cw, .int ts, .ref a1, .ref a2, .ref a3, .ref a4, .ref a5]))]) [0] rfl
  have hDc := hD.sub (ws' := [(aO, .inr (0, [.ref aT, .ref aF, .int cw, .int ts, .ref a1, .ref a2, .ref a3, .ref a4, .ref a5]))]) [0] (by decide) rfl
  have hKc := hK.sub (tys' := []) [] rfl
  have hFc := va_free (wc := [(aO, .inr (0, [.ref aT, .ref aF, .int cw, .int ts, .ref a1, .ref a2, .ref a3, .ref a4, .ref a5]))]) hD hS hA [0] rfl
  refine vx_callv (vx_runV (As := [.int iw]) (rest := []) ⟨hx, hb, hml, hown, htA⟩ (c_O_control l hl9 dC dI aO aT aF a1 a2 a3 a4 a5 H.size cw ts iw) (cwV 1 htA (gi_V k_383 k_384 k_385 k_90 (gi_code k_210)) rfl rfl rfl (by decide +kernel) ⟨Nat.le_of_ble_eq_true rfl, Nat.le_of_ble_eq_true rfl⟩) (pre_X hnw hsw hZU hZN hS hFc hPc hKc hDc (ci := 0) (q0 := 0) rfl rfl) rfl rfl hl.1 rfl (lv_room (Nat.le_of_ble_eq_true rfl)) d_L_control_2 ⟨Nat.le_of_ble_eq_true rfl, Nat.le_of_ble_eq_true rfl⟩) hS (fun q _ h => hFc q h) hFc (fun q _ h => hFc q h) (fun E9 ce9 q9 u9 t9 H9 locs9 ht9 hvm9 hpx9 hB9 hz9 hk9 hS9 hce9 hcv9 hcl9 => ?_) (fun u9 t9 H9 locs9 ht9 hvm9 hp9 hB9 hz9 hk9 hS9 => ?_)
  · skip
    obtain ⟨hE9, hP1, hD1⟩ := hB9
    rw [ht9] at hP1
    obtain ⟨hP, hD⟩ := va_join (wr := []) hP hD [0] [] rfl rfl (by decide) (by decide) hk9 hFc hP1 hD1
    generalize H9 = H at hP hS9 hce9 ⊢
    generalize locs9 = locs at hS9 ⊢
    have hS := hS9
    have hP : va_P (dC, dI) classes [(aO, .inr (0, [.ref aT, .ref aF, .int cw, .int ts, .ref a1, .ref a2, .ref a3, .ref a4, .ref a5]))] H := hP
    have hD : va_D A [(aO, .inr (0, [.ref aT, .ref aF, .int cw, .int ts, .ref a1, .ref a2, .ref a3, .ref a4, .ref a5]))] := hD
    rcases hE9 with ⟨c_2_1, rfl⟩ | ⟨c_2_2, rfl⟩
    · skip
      exact absurd c_2_1 (x_control_ne1 iw)
    · skip
      refine vx_catch (name := "java/lang/IllegalArgumentException") hown [] ⟨0, 5, 8, 13⟩ [] (htab.trans rfl) (fun z hz => absurd hz List.not_mem_nil) rfl (by decide) (htA _ k_386) (va_Nw.use rfl (hnw _ n_27)) hce9 hcv9 hcl9 ?_
      refine W.eq (g2 := F0 m 8 ls [.ref q9]) rfl ?_
      refine lv_astore_n (lv' := [(2, .ref q9), (0, .ref aO), (1, .int iw)]) hx hb d_L_control_8 rfl hl (by decide) rfl (fun ls hl => ?_)
      refine lv_iconst (v := 1) hx hb d_L_control_9 (by decide) ?_
      have hE : g_L_control cw iw = (1, cw) := by clear hP hD hl hS; unfold g_L_control; (try dsimp only); rw [if_pos c_2_2]
      have hP9 : va_P (dC, dI) classes [(aO, .inr (0, [.ref aT, .ref aF, .int ((g_L_control cw iw).2), .int ts, .ref a1, .ref a2, .ref a3, .ref a4, .ref a5]))] H := by rw [hE]; exact hP.sub [0] rfl
      have hD9 : va_D A [(aO, .inr (0, [.ref aT, .ref aF, .int ((g_L_control cw iw).2), .int ts, .ref a1, .ref a2, .ref a3, .ref a4, .ref a5]))] := by rw [hE]; exact hD.sub [0] (by decide) rfl
      exact W.iret (v := 1) hx hb hr (fun t ht hW => ⟨⟨1, (), rfl, by rw [hE], by rw [ht]; exact hP9, hD9⟩, hS.F ht⟩) hS.2.2 d_L_control_10
  · skip
    obtain ⟨hP1, hD1⟩ := hB9
    rw [ht9] at hP1
    obtain ⟨hP, hD⟩ := va_join (wr := []) hP hD [0] [] rfl rfl (by decide) (by decide) hk9 hFc hP1 hD1
    generalize H9 = H at hP hS9 ⊢
    generalize locs9 = locs at hS9 ⊢
    have hS := hS9
    have hp9 : (x_O_control iw) = 0 := hp9
    have c_2_2 : ¬ (x_O_control iw) = 2 := by rw [hp9]; decide
    have hP : va_P (dC, dI) classes [(aO, .inr (0, [.ref aT, .ref aF, .int (g_O_control cw iw), .int ts, .ref a1, .ref a2, .ref a3, .ref a4, .ref a5]))] H := hP
    have hD : va_D A [(aO, .inr (0, [.ref aT, .ref aF, .int (g_O_control cw iw), .int ts, .ref a1, .ref a2, .ref a3, .ref a4, .ref a5]))] := hD
    refine lv_goto (tgt := 11) hx hb d_L_control_5 (by decide) ?_
    refine lv_iconst (v := 0) hx hb d_L_control_11 (by decide) ?_
    have hE : g_L_control cw iw = (0, (g_O_control cw iw)) := by clear hP hD hl hS; unfold g_L_control; (try dsimp only); rw [if_neg c_2_2]
    have hP9 : va_P (dC, dI) classes [(aO, .inr (0, [.ref aT, .ref aF, .int ((g_L_control cw iw).2), .int ts, .ref a1, .ref a2, .ref a3, .ref a4, .ref a5]))] H := by rw [hE]; exact hP.sub [0] rfl
    have hD9 : va_D A [(aO, .inr (0, [.ref aT, .ref aF, .int ((g_L_control cw iw).2), .int ts, .ref a1, .ref a2, .ref a3, .ref a4, .ref a5]))] := by rw [hE]; exact hD.sub [0] (by decide) rfl
    exact W.iret (v := 0) hx hb hr (fun t ht hW => ⟨⟨0, (), rfl, by rw [hE], by rw [ht]; exact hP9, hD9⟩, hS.F ht⟩) hS.2.2 d_L_control_12
theorem d_L_set_0 : decode b_L_set 0 = .ok (.aload_n 0, 1) := by decide +kernel
theorem d_L_set_1 : decode b_L_set 1 = .ok (.iload_n 1, 1) := by decide +kernel
theorem d_L_set_2 : decode b_L_set 2 = .ok (.iload_n 2, 1) := by decide +kernel
theorem d_L_set_3 : decode b_L_set 3 = .ok (.iload_n 3, 1) := by decide +kernel
theorem d_L_set_4 : decode b_L_set 4 = .ok (.iload 4, 2) := by decide +kernel
theorem d_L_set_6 : decode b_L_set 6 = .ok (.invokevirtual 15, 3) := by decide +kernel
theorem d_L_set_12 : decode b_L_set 12 = .ok (.astore 5, 2) := by decide +kernel
theorem d_L_set_14 : decode b_L_set 14 = .ok (.iconst 1, 1) := by decide +kernel
theorem d_L_set_15 : decode b_L_set 15 = .ok (.ireturn, 1) := by decide +kernel
theorem d_L_set_16 : decode b_L_set 16 = .ok (.astore 5, 2) := by decide +kernel
theorem d_L_set_18 : decode b_L_set 18 = .ok (.iconst 2, 1) := by decide +kernel
theorem d_L_set_19 : decode b_L_set 19 = .ok (.ireturn, 1) := by decide +kernel
theorem d_L_set_9 : decode b_L_set 9 = .ok (.goto 11, 3) := by decide +kernel
theorem d_L_set_20 : decode b_L_set 20 = .ok (.iconst 0, 1) := by decide +kernel
theorem d_L_set_21 : decode b_L_set 21 = .ok (.ireturn, 1) := by decide +kernel
set_option maxHeartbeats 4000000 in
set_option maxRecDepth 100000 in
theorem c_L_set (l : Launch) (hl9 : l.stackTraces = false) (dC : Nat → ClassId) (dI : Nat → Nat → Nat) (cI : ClassId) (cL : ClassId) (aO : Nat) (aT : Nat) (aF : Nat) (a1 : Nat) (a2 : Nat) (a3 : Nat) (a4 : Nat) (a5 : Nat) (sz : Nat) (cw : Int32) (ts : Int32) (fT : Nat → Int32) (fF : Nat → Int64) (ir : Int32) (itp : Int32) (ihg : Int32) (ilw : Int32) : Met l y_L_set w_L_set ({ frames := 7, cells := 1, slots := 6, locals := 134 }) (cPl (dC, dI) [(cI, .int), (cL, .long)] [.ref aO, .int ir, .int itp, .int ihg, .int ilw] [(aO, .inr (0, [.ref aT, .ref aF, .int cw, .int ts, .ref a1, .ref a2, .ref a3, .ref a4, .ref a5])), (aT, .inl (cI, 8, .inl fT)), (aF, .inl (cL, 8, .inr (.inl fF)))] sz) (va_Qi (fun (r : Int32) (_ : Unit) => r = (g_L_set fT fF ir itp ihg ilw).1) (fun _ t => va_P (dC, dI) classes [(aO, .inr (0, [.ref aT, .ref aF, .int cw, .int ts, .ref a1, .ref a2, .ref a3, .ref a4, .ref a5])), (aT, .inl (cI, 8, .inl ((g_L_set fT fF ir itp ihg ilw).2.1))), (aF, .inl (cL, 8, .inr (.inl ((g_L_set fT fF ir itp ihg ilw).2.2))))] t.heap ∧ va_D (va_A [(aO, .inr (0, [.ref aT, .ref aF, .int cw, .int ts, .ref a1, .ref a2, .ref a3, .ref a4, .ref a5])), (aT, .inl (cI, 8, .inl fT)), (aF, .inl (cL, 8, .inr (.inl fF)))] sz) [(aO, .inr (0, [.ref aT, .ref aF, .int cw, .int ts, .ref a1, .ref a2, .ref a3, .ref a4, .ref a5])), (aT, .inl (cI, 8, .inl ((g_L_set fT fF ir itp ihg ilw).2.1))), (aF, .inl (cL, 8, .inr (.inl ((g_L_set fT fF ir itp ihg ilw).2.2))))]) (va_A [(aO, .inr (0, [.ref aT, .ref aF, .int cw, .int ts, .ref a1, .ref a2, .ref a3, .ref a4, .ref a5])), (aT, .inl (cI, 8, .inl fT)), (aF, .inl (cL, 8, .inr (.inl fF)))] sz)) 1 6 (va_A [(aO, .inr (0, [.ref aT, .ref aF, .int cw, .int ts, .ref a1, .ref a2, .ref a3, .ref a4, .ref a5])), (aT, .inl (cI, 8, .inl fT)), (aF, .inl (cL, 8, .inr (.inl fF)))] sz) := by
  refine va_MetW (cc := b_L_set) (maxL := 6) (ret := (some .int)) (hh := [(0, 9, 12, 19), (0, 9, 16, 13)]) (by decide) rfl ?_
  intro p e s m args below meth c s₁ B hml hv
  obtain ⟨rfl, hsz, hP, hK, hD0, hnw, hZU, hZN, hsw, hnc⟩ := hv
  have hx := B.exec
  have hb := B.bytes
  have hr := B.returns
  have hts := atoms_spec (ws := w_L_set) B.pre
  have htA : ∀ w ∈ wAll, w.before _ s = true := fun w h => hts w (List.mem_cons_of_mem _ h)
  have htab := vx_table (x := y_L_set) B (hts _ List.mem_cons_self)
  have hown : s.vm.findClass R_L = some m.cls := findClass_of_methodNamed B.named
  have hlocks := B.notSynchronized
  subst hsz
  have hD := hD0.self (sz := s.heap.size)
  generalize hAe : va_A [(aO, .inr (0, [.ref aT, .ref aF, .int cw, .int ts, .ref a1, .ref a2, .ref a3, .ref a4, .ref a5])), (aT, .inl (cI, 8, .inl fT)), (aF, .inl (cL, 8, .inr (.inl fF)))] s.heap.size = A at hD hZU hZN ⊢
  have hA : ∀ q : Nat, s.heap.size ≤ q → A q := fun q h => by rw [← hAe]; exact Or.inr h
  have hS : va_S A s.heap s.heap [] := va_S.rf
  have hP : va_P (dC, dI) classes [(aO, .inr (0, [.ref aT, .ref aF, .int cw, .int ts, .ref a1, .ref a2, .ref a3, .ref a4, .ref a5])), (aT, .inl (cI, 8, .inl fT)), (aF, .inl (cL, 8, .inr (.inl fF)))] s.heap := hP
  obtain ⟨H, eH⟩ : ∃ z, z = s.heap := ⟨_, rfl⟩
  rw [← eH] at hP
  have hS : va_S A s.heap H [] := by rw [eH]; exact hS
  rw [← eH]
  generalize ([] : List Loc) = locs at hS ⊢
  have hl := lv_entry ([.ref aO, .int ir, .int itp, .int ihg, .int ilw]) (n := 6) (Nat.le_of_ble_eq_true rfl)
  rw [lg_entry_eq]
  generalize (lg_sl ([.ref aO, .int ir, .int itp, .int ihg, .int ilw]) ++ List.replicate (6 - (lg_sl ([.ref aO, .int ir, .int itp, .int ihg, .int ilw])).length) Slot.unset).toArray = ls at hl ⊢
  have hl : lv_has ls 6 [(0, .ref aO), (1, .int ir), (2, .int itp), (3, .int ihg), (4, .int ilw)] := hl
  refine lv_aload_n hx hb d_L_set_0 rfl (lv_at hl 0 rfl) ?_
  refine lv_iload_n hx hb d_L_set_1 rfl (lv_at hl 1 rfl) ?_
  refine lv_iload_n hx hb d_L_set_2 rfl (lv_at hl 2 rfl) ?_
  refine lv_iload_n hx hb d_L_set_3 rfl (lv_at hl 3 rfl) ?_
  refine lv_iload hx hb d_L_set_4 (lv_at hl 4 rfl) ?_
  have hPc := hP.sub (ws' := [(aO, .inr (0, [.ref aT, .ref aF, .int cw, .int ts, .ref a1, .ref a2, .ref a3, .ref a4, .ref a5])), (aT, .inl (cI, 8, .inl fT)), (aF, .inl (cL, 8, .inr (.inl fF)))]) [0, 1, 2] rfl
  have hDc := hD.sub (ws' := [(aO, .inr (0, [.ref aT, .ref aF, .int cw, .int ts, .ref a1, .ref a2, .ref a3, .ref a4, .ref a5])), (aT, .inl (cI, 8, .inl fT)), (aF, .inl (cL, 8, .inr (.inl fF)))]) [0, 1, 2] (by decide) rfl
  have hKc := hK.sub (tys' := [(cI, .int), (cL, .long)]) [0, 1] rfl
  have hFc := va_free (wc := [(aO, .inr (0, [.ref aT, .ref aF, .int cw, .int ts, .ref a1, .ref a2, .ref a3, .ref a4, .ref a5])), (aT, .inl (cI, 8, .inl fT)), (aF, .inl (cL, 8, .inr (.inl fF)))]) hD hS hA [0, 1, 2] rfl
  refine vx_callv (vx_runV (As := [.int ir, .int itp, .int ihg, .int ilw]) (rest := []) ⟨hx, hb, hml, hown, htA⟩ (c_O_set l hl9 dC dI cI cL aO aT aF a1 a2 a3 a4 a5 H.size cw ts fT fF ir itp ihg ilw) (cwV 4 htA (gi_V k_388 k_389 k_390 k_90 (gi_code k_216)) rfl rfl rfl (by decide +kernel) ⟨Nat.le_of_ble_eq_true rfl, Nat.le_of_ble_eq_true rfl⟩) (pre_X hnw hsw hZU hZN hS hFc hPc hKc hDc (ci := 0) (q0 := 0) rfl rfl) rfl rfl hl.1 rfl (lv_room (Nat.le_of_ble_eq_true rfl)) d_L_set_6 ⟨Nat.le_of_ble_eq_true rfl, Nat.le_of_ble_eq_true rfl⟩) hS (fun q _ h => hFc q h) hFc (fun q _ h => hFc q h) (fun E9 ce9 q9 u9 t9 H9 locs9 ht9 hvm9 hpx9 hB9 hz9 hk9 hS9 hce9 hcv9 hcl9 => ?_) (fun u9 t9 H9 locs9 ht9 hvm9 hp9 hB9 hz9 hk9 hS9 => ?_)
  · skip
    obtain ⟨hE9, hP1, hD1⟩ := hB9
    rw [ht9] at hP1
    obtain ⟨hP, hD⟩ := va_join (wr := []) hP hD [0, 1, 2] [] rfl rfl (by decide) (by decide) hk9 hFc hP1 hD1
    generalize H9 = H at hP hS9 hce9 ⊢
    generalize locs9 = locs at hS9 ⊢
    have hS := hS9
    have hP : va_P (dC, dI) classes [(aO, .inr (0, [.ref aT, .ref aF, .int cw, .int ts, .ref a1, .ref a2, .ref a3, .ref a4, .ref a5])), (aT, .inl (cI, 8, .inl fT)), (aF, .inl (cL, 8, .inr (.inl fF)))] H := hP
    have hD : va_D A [(aO, .inr (0, [.ref aT, .ref aF, .int cw, .int ts, .ref a1, .ref a2, .ref a3, .ref a4, .ref a5])), (aT, .inl (cI, 8, .inl fT)), (aF, .inl (cL, 8, .inr (.inl fF)))] := hD
    rcases hE9 with ⟨c_6_1, rfl⟩ | ⟨c_6_2, rfl⟩
    · skip
      refine vx_catch (name := "java/lang/IndexOutOfBoundsException") hown [] ⟨0, 9, 12, 19⟩ [⟨0, 9, 16, 13⟩] (htab.trans rfl) (fun z hz => absurd hz List.not_mem_nil) rfl (by decide) (htA _ k_391) (va_Nw.use rfl (hnw _ n_31)) hce9 hcv9 hcl9 ?_
      refine W.eq (g2 := F0 m 12 ls [.ref q9]) rfl ?_
      refine lv_astore (lv' := [(5, .ref q9), (0, .ref aO), (1, .int ir), (2, .int itp), (3, .int ihg), (4, .int ilw)]) hx hb d_L_set_12 hl (by decide) rfl (fun ls hl => ?_)
      refine lv_iconst (v := 1) hx hb d_L_set_14 (by decide) ?_
      have hE : g_L_set fT fF ir itp ihg ilw = (1, fT, fF) := by clear hP hD hl hS; unfold g_L_set; (try dsimp only); rw [if_pos c_6_1]
      have hP9 : va_P (dC, dI) classes [(aO, .inr (0, [.ref aT, .ref aF, .int cw, .int ts, .ref a1, .ref a2, .ref a3, .ref a4, .ref a5])), (aT, .inl (cI, 8, .inl ((g_L_set fT fF ir itp ihg ilw).2.1))), (aF, .inl (cL, 8, .inr (.inl ((g_L_set fT fF ir itp ihg ilw).2.2))))] H := by rw [hE]; exact hP.sub [0, 1, 2] rfl
      have hD9 : va_D A [(aO, .inr (0, [.ref aT, .ref aF, .int cw, .int ts, .ref a1, .ref a2, .ref a3, .ref a4, .ref a5])), (aT, .inl (cI, 8, .inl ((g_L_set fT fF ir itp ihg ilw).2.1))), (aF, .inl (cL, 8, .inr (.inl ((g_L_set fT fF ir itp ihg ilw).2.2))))] := by rw [hE]; exact hD.sub [0, 1, 2] (by decide) rfl
      exact W.iret (v := 1) hx hb hr (fun t ht hW => ⟨⟨1, (), rfl, by rw [hE], by rw [ht]; exact hP9, hD9⟩, hS.F ht⟩) hS.2.2 d_L_set_15
    · skip
      have c_6_1 : ¬ (x_O_set ir itp) = 1 := by rw [c_6_2]; decide
      refine vx_catch (name := "java/lang/IllegalArgumentException") hown [⟨0, 9, 12, 19⟩] ⟨0, 9, 16, 13⟩ [] (htab.trans rfl) (fun z hz => by obtain rfl := List.mem_singleton.mp hz; exact Or.inr ⟨by decide, "java/lang/IndexOutOfBoundsException", htA _ k_391, hnc⟩) rfl (by decide) (htA _ k_386) (va_Nw.use rfl (hnw _ n_27)) hce9 hcv9 hcl9 ?_
      refine W.eq (g2 := F0 m 16 ls [.ref q9]) rfl ?_
      refine lv_astore (lv' := [(5, .ref q9), (0, .ref aO), (1, .int ir), (2, .int itp), (3, .int ihg), (4, .int ilw)]) hx hb d_L_set_16 hl (by decide) rfl (fun ls hl => ?_)
      refine lv_iconst (v := 2) hx hb d_L_set_18 (by decide) ?_
      have hE : g_L_set fT fF ir itp ihg ilw = (2, fT, fF) := by clear hP hD hl hS; unfold g_L_set; (try dsimp only); rw [if_neg c_6_1, if_pos c_6_2]
      have hP9 : va_P (dC, dI) classes [(aO, .inr (0, [.ref aT, .ref aF, .int cw, .int ts, .ref a1, .ref a2, .ref a3, .ref a4, .ref a5])), (aT, .inl (cI, 8, .inl ((g_L_set fT fF ir itp ihg ilw).2.1))), (aF, .inl (cL, 8, .inr (.inl ((g_L_set fT fF ir itp ihg ilw).2.2))))] H := by rw [hE]; exact hP.sub [0, 1, 2] rfl
      have hD9 : va_D A [(aO, .inr (0, [.ref aT, .ref aF, .int cw, .int ts, .ref a1, .ref a2, .ref a3, .ref a4, .ref a5])), (aT, .inl (cI, 8, .inl ((g_L_set fT fF ir itp ihg ilw).2.1))), (aF, .inl (cL, 8, .inr (.inl ((g_L_set fT fF ir itp ihg ilw).2.2))))] := by rw [hE]; exact hD.sub [0, 1, 2] (by decide) rfl
      exact W.iret (v := 2) hx hb hr (fun t ht hW => ⟨⟨2, (), rfl, by rw [hE], by rw [ht]; exact hP9, hD9⟩, hS.F ht⟩) hS.2.2 d_L_set_19
  · skip
    obtain ⟨hP1, hD1⟩ := hB9
    rw [ht9] at hP1
    obtain ⟨hP, hD⟩ := va_join (wr := []) hP hD [0, 1, 2] [] rfl rfl (by decide) (by decide) hk9 hFc hP1 hD1
    generalize H9 = H at hP hS9 ⊢
    generalize locs9 = locs at hS9 ⊢
    have hS := hS9
    have hp9 : (x_O_set ir itp) = 0 := hp9
    have c_6_1 : ¬ (x_O_set ir itp) = 1 := by rw [hp9]; decide
    have c_6_2 : ¬ (x_O_set ir itp) = 2 := by rw [hp9]; decide
    obtain ⟨z6, ez6⟩ : ∃ z, g_O_set fT fF ir itp ihg ilw = z := ⟨_, rfl⟩
    rw [ez6] at hP hD
    have hP : va_P (dC, dI) classes [(aO, .inr (0, [.ref aT, .ref aF, .int cw, .int ts, .ref a1, .ref a2, .ref a3, .ref a4, .ref a5])), (aT, .inl (cI, 8, .inl z6.1)), (aF, .inl (cL, 8, .inr (.inl z6.2)))] H := hP
    have hD : va_D A [(aO, .inr (0, [.ref aT, .ref aF, .int cw, .int ts, .ref a1, .ref a2, .ref a3, .ref a4, .ref a5])), (aT, .inl (cI, 8, .inl z6.1)), (aF, .inl (cL, 8, .inr (.inl z6.2)))] := hD
    refine lv_goto (tgt := 20) hx hb d_L_set_9 (by decide) ?_
    refine lv_iconst (v := 0) hx hb d_L_set_20 (by decide) ?_
    have hE : g_L_set fT fF ir itp ihg ilw = (0, z6.1, z6.2) := by clear hP hD hl hS; subst ez6; unfold g_L_set; (try dsimp only); rw [if_neg c_6_1, if_neg c_6_2]
    have hP9 : va_P (dC, dI) classes [(aO, .inr (0, [.ref aT, .ref aF, .int cw, .int ts, .ref a1, .ref a2, .ref a3, .ref a4, .ref a5])), (aT, .inl (cI, 8, .inl ((g_L_set fT fF ir itp ihg ilw).2.1))), (aF, .inl (cL, 8, .inr (.inl ((g_L_set fT fF ir itp ihg ilw).2.2))))] H := by rw [hE]; exact hP.sub [0, 1, 2] rfl
    have hD9 : va_D A [(aO, .inr (0, [.ref aT, .ref aF, .int cw, .int ts, .ref a1, .ref a2, .ref a3, .ref a4, .ref a5])), (aT, .inl (cI, 8, .inl ((g_L_set fT fF ir itp ihg ilw).2.1))), (aF, .inl (cL, 8, .inr (.inl ((g_L_set fT fF ir itp ihg ilw).2.2))))] := by rw [hE]; exact hD.sub [0, 1, 2] (by decide) rfl
    exact W.iret (v := 0) hx hb hr (fun t ht hW => ⟨⟨0, (), rfl, by rw [hE], by rw [ht]; exact hP9, hD9⟩, hS.F ht⟩) hS.2.2 d_L_set_21
theorem d_L_part_0 : decode b_L_part 0 = .ok (.aload_n 3, 1) := by decide +kernel
theorem d_L_part_1 : decode b_L_part 1 = .ok (.iconst 0, 1) := by decide +kernel
theorem d_L_part_2 : decode b_L_part 2 = .ok (.aload_n 0, 1) := by decide +kernel
theorem d_L_part_3 : decode b_L_part 3 = .ok (.iload_n 1, 1) := by decide +kernel
theorem d_L_part_4 : decode b_L_part 4 = .ok (.iload_n 2, 1) := by decide +kernel
theorem d_L_part_5 : decode b_L_part 5 = .ok (.invokevirtual 21, 3) := by decide +kernel
theorem d_L_part_13 : decode b_L_part 13 = .ok (.astore 4, 2) := by decide +kernel
theorem d_L_part_15 : decode b_L_part 15 = .ok (.iconst 1, 1) := by decide +kernel
theorem d_L_part_16 : decode b_L_part 16 = .ok (.ireturn, 1) := by decide +kernel
theorem d_L_part_17 : decode b_L_part 17 = .ok (.astore 4, 2) := by decide +kernel
theorem d_L_part_19 : decode b_L_part 19 = .ok (.iconst 2, 1) := by decide +kernel
theorem d_L_part_20 : decode b_L_part 20 = .ok (.ireturn, 1) := by decide +kernel
theorem d_L_part_8 : decode b_L_part 8 = .ok (.i2l, 1) := by decide +kernel
theorem d_L_part_9 : decode b_L_part 9 = .ok (.lastore, 1) := by decide +kernel
theorem d_L_part_10 : decode b_L_part 10 = .ok (.goto 11, 3) := by decide +kernel
theorem d_L_part_21 : decode b_L_part 21 = .ok (.iconst 0, 1) := by decide +kernel
theorem d_L_part_22 : decode b_L_part 22 = .ok (.ireturn, 1) := by decide +kernel
set_option maxHeartbeats 4000000 in
set_option maxRecDepth 100000 in
theorem c_L_part (l : Launch) (hl9 : l.stackTraces = false) (dC : Nat → ClassId) (dI : Nat → Nat → Nat) (cI : ClassId) (cL : ClassId) (cV : ClassId) (aO : Nat) (aT : Nat) (aF : Nat) (aV : Nat) (a1 : Nat) (a2 : Nat) (a3 : Nat) (a4 : Nat) (a5 : Nat) (sz : Nat) (cw : Int32) (ts : Int32) (fT : Nat → Int32) (fF : Nat → Int64) (fV : Nat → Int64) (ir : Int32) (iwh : Int32) : Met l y_L_part w_L_part ({ frames := 7, cells := 1, slots := 6, locals := 132 }) (cPl (dC, dI) [(cI, .int), (cL, .long), (cV, .long)] [.ref aO, .int ir, .int iwh, .ref aV] [(aO, .inr (0, [.ref aT, .ref aF, .int cw, .int ts, .ref a1, .ref a2, .ref a3, .ref a4, .ref a5])), (aT, .inl (cI, 8, .inl fT)), (aF, .inl (cL, 8, .inr (.inl fF))), (aV, .inl (cV, 1, .inr (.inl fV)))] sz) (va_Qi (fun (r : Int32) (_ : Unit) => r = (g_L_part fT fF fV ir iwh).1) (fun _ t => va_P (dC, dI) classes [(aO, .inr (0, [.ref aT, .ref aF, .int cw, .int ts, .ref a1, .ref a2, .ref a3, .ref a4, .ref a5])), (aT, .inl (cI, 8, .inl fT)), (aF, .inl (cL, 8, .inr (.inl fF))), (aV, .inl (cV, 1, .inr (.inl ((g_L_part fT fF fV ir iwh).2))))] t.heap ∧ va_D (va_A [(aO, .inr (0, [.ref aT, .ref aF, .int cw, .int ts, .ref a1, .ref a2, .ref a3, .ref a4, .ref a5])), (aT, .inl (cI, 8, .inl fT)), (aF, .inl (cL, 8, .inr (.inl fF))), (aV, .inl (cV, 1, .inr (.inl fV)))] sz) [(aO, .inr (0, [.ref aT, .ref aF, .int cw, .int ts, .ref a1, .ref a2, .ref a3, .ref a4, .ref a5])), (aT, .inl (cI, 8, .inl fT)), (aF, .inl (cL, 8, .inr (.inl fF))), (aV, .inl (cV, 1, .inr (.inl ((g_L_part fT fF fV ir iwh).2))))]) (va_A [(aO, .inr (0, [.ref aT, .ref aF, .int cw, .int ts, .ref a1, .ref a2, .ref a3, .ref a4, .ref a5])), (aT, .inl (cI, 8, .inl fT)), (aF, .inl (cL, 8, .inr (.inl fF))), (aV, .inl (cV, 1, .inr (.inl fV)))] sz)) 1 6 (va_A [(aO, .inr (0, [.ref aT, .ref aF, .int cw, .int ts, .ref a1, .ref a2, .ref a3, .ref a4, .ref a5])), (aT, .inl (cI, 8, .inl fT)), (aF, .inl (cL, 8, .inr (.inl fF))), (aV, .inl (cV, 1, .inr (.inl fV)))] sz) := by
  refine va_MetW (cc := b_L_part) (maxL := 5) (ret := (some .int)) (hh := [(0, 10, 13, 19), (0, 10, 17, 13)]) (by decide) rfl ?_
  intro p e s m args below meth c s₁ B hml hv
  obtain ⟨rfl, hsz, hP, hK, hD0, hnw, hZU, hZN, hsw, hnc⟩ := hv
  have hx := B.exec
  have hb := B.bytes
  have hr := B.returns
  have hts := atoms_spec (ws := w_L_part) B.pre
  have htA : ∀ w ∈ wAll, w.before _ s = true := fun w h => hts w (List.mem_cons_of_mem _ h)
  have htab := vx_table (x := y_L_part) B (hts _ List.mem_cons_self)
  have hown : s.vm.findClass R_L = some m.cls := findClass_of_methodNamed B.named
  have hlocks := B.notSynchronized
  subst hsz
  have hD := hD0.self (sz := s.heap.size)
  generalize hAe : va_A [(aO, .inr (0, [.ref aT, .ref aF, .int cw, .int ts, .ref a1, .ref a2, .ref a3, .ref a4, .ref a5])), (aT, .inl (cI, 8, .inl fT)), (aF, .inl (cL, 8, .inr (.inl fF))), (aV, .inl (cV, 1, .inr (.inl fV)))] s.heap.size = A at hD hZU hZN ⊢
  have hA : ∀ q : Nat, s.heap.size ≤ q → A q := fun q h => by rw [← hAe]; exact Or.inr h
  have hS : va_S A s.heap s.heap [] := va_S.rf
  have hP : va_P (dC, dI) classes [(aO, .inr (0, [.ref aT, .ref aF, .int cw, .int ts, .ref a1, .ref a2, .ref a3, .ref a4, .ref a5])), (aT, .inl (cI, 8, .inl fT)), (aF, .inl (cL, 8, .inr (.inl fF))), (aV, .inl (cV, 1, .inr (.inl fV)))] s.heap := hP
  obtain ⟨H, eH⟩ : ∃ z, z = s.heap := ⟨_, rfl⟩
  rw [← eH] at hP
  have hS : va_S A s.heap H [] := by rw [eH]; exact hS
  rw [← eH]
  generalize ([] : List Loc) = locs at hS ⊢
  have hl := lv_entry ([.ref aO, .int ir, .int iwh, .ref aV]) (n := 5) (Nat.le_of_ble_eq_true rfl)
  rw [lg_entry_eq]
  generalize (lg_sl ([.ref aO, .int ir, .int iwh, .ref aV]) ++ List.replicate (5 - (lg_sl ([.ref aO, .int ir, .int iwh, .ref aV])).length) Slot.unset).toArray = ls at hl ⊢
  have hl : lv_has ls 5 [(0, .ref aO), (1, .int ir), (2, .int iwh), (3, .ref aV)] := hl
  refine lv_aload_n hx hb d_L_part_0 rfl (lv_at hl 3 rfl) ?_
  refine lv_iconst (v := 0) hx hb d_L_part_1 (by decide) ?_
  refine lv_aload_n hx hb d_L_part_2 rfl (lv_at hl 0 rfl) ?_
  refine lv_iload_n hx hb d_L_part_3 rfl (lv_at hl 1 rfl) ?_
  refine lv_iload_n hx hb d_L_part_4 rfl (lv_at hl 2 rfl) ?_
  have hPc := hP.sub (ws' := [(aO, .inr (0, [.ref aT, .ref aF, .int cw, .int ts, .ref a1, .ref a2, .ref a3, .ref a4, .ref a5])), (aT, .inl (cI, 8, .inl fT)), (aF, .inl (cL, 8, .inr (.inl fF)))]) [0, 1, 2] rfl
  have hDc := hD.sub (ws' := [(aO, .inr (0, [.ref aT, .ref aF, .int cw, .int ts, .ref a1, .ref a2, .ref a3, .ref a4, .ref a5])), (aT, .inl (cI, 8, .inl fT)), (aF, .inl (cL, 8, .inr (.inl fF)))]) [0, 1, 2] (by decide) rfl
  have hKc := hK.sub (tys' := [(cI, .int), (cL, .long)]) [0, 1] rfl
  have hFc := va_free (wc := [(aO, .inr (0, [.ref aT, .ref aF, .int cw, .int ts, .ref a1, .ref a2, .ref a3, .ref a4, .ref a5])), (aT, .inl (cI, 8, .inl fT)), (aF, .inl (cL, 8, .inr (.inl fF)))]) hD hS hA [0, 1, 2] rfl
  refine vx_calli (vx_runV (As := [.int ir, .int iwh]) (rest := [.int 0, .ref aV]) ⟨hx, hb, hml, hown, htA⟩ (c_O_part l hl9 dC dI cI cL aO aT aF a1 a2 a3 a4 a5 H.size cw ts fT fF ir iwh) (cwV 2 htA (gi_V k_393 k_394 k_395 k_90 (gi_code k_217)) rfl rfl rfl (by decide +kernel) ⟨Nat.le_of_ble_eq_true rfl, Nat.le_of_ble_eq_true rfl⟩) (pre_X hnw hsw hZU hZN hS hFc hPc hKc hDc (ci := 0) (q0 := 0) rfl rfl) rfl rfl hl.1 rfl (lv_room (Nat.le_of_ble_eq_true rfl)) d_L_part_5 ⟨Nat.le_of_ble_eq_true rfl, Nat.le_of_ble_eq_true rfl⟩) hS (fun q _ h => hFc q h) hFc (fun q _ h => hFc q h) (fun E9 ce9 q9 u9 t9 H9 locs9 ht9 hvm9 hpx9 hB9 hz9 hk9 hS9 hce9 hcv9 hcl9 => ?_) (fun r9 u9 t9 H9 locs9 ht9 hvm9 hp9 hB9 hz9 hk9 hS9 => ?_)
  · skip
    obtain ⟨hE9, hP1, hD1⟩ := hB9
    rw [ht9] at hP1
    obtain ⟨hP, hD⟩ := va_join (wr := [(aV, .inl (cV, 1, .inr (.inl fV)))]) hP hD [0, 1, 2] [3] rfl rfl (by decide) (by decide) hk9 hFc hP1 hD1
    generalize H9 = H at hP hS9 hce9 ⊢
    generalize locs9 = locs at hS9 ⊢
    have hS := hS9
    have hP : va_P (dC, dI) classes [(aV, .inl (cV, 1, .inr (.inl fV))), (aO, .inr (0, [.ref aT, .ref aF, .int cw, .int ts, .ref a1, .ref a2, .ref a3, .ref a4, .ref a5])), (aT, .inl (cI, 8, .inl fT)), (aF, .inl (cL, 8, .inr (.inl fF)))] H := hP
    have hD : va_D A [(aV, .inl (cV, 1, .inr (.inl fV))), (aO, .inr (0, [.ref aT, .ref aF, .int cw, .int ts, .ref a1, .ref a2, .ref a3, .ref a4, .ref a5])), (aT, .inl (cI, 8, .inl fT)), (aF, .inl (cL, 8, .inr (.inl fF)))] := hD
    rcases hE9 with ⟨c_5_1, rfl⟩ | ⟨c_5_2, rfl⟩
    · skip
      refine vx_catch (name := "java/lang/IndexOutOfBoundsException") hown [] ⟨0, 10, 13, 19⟩ [⟨0, 10, 17, 13⟩] (htab.trans rfl) (fun z hz => absurd hz List.not_mem_nil) rfl (by decide) (htA _ k_391) (va_Nw.use rfl (hnw _ n_31)) hce9 hcv9 hcl9 ?_
      refine W.eq (g2 := F0 m 13 ls [.ref q9]) rfl ?_
      refine lv_astore (lv' := [(4, .ref q9), (0, .ref aO), (1, .int ir), (2, .int iwh), (3, .ref aV)]) hx hb d_L_part_13 hl (by decide) rfl (fun ls hl => ?_)
      refine lv_iconst (v := 1) hx hb d_L_part_15 (by decide) ?_
      have hE : g_L_part fT fF fV ir iwh = (1, fV) := by clear hP hD hl hS; unfold g_L_part; (try dsimp only); rw [if_pos c_5_1]
      have hP9 : va_P (dC, dI) classes [(aO, .inr (0, [.ref aT, .ref aF, .int cw, .int ts, .ref a1, .ref a2, .ref a3, .ref a4, .ref a5])), (aT, .inl (cI, 8, .inl fT)), (aF, .inl (cL, 8, .inr (.inl fF))), (aV, .inl (cV, 1, .inr (.inl ((g_L_part fT fF fV ir iwh).2))))] H := by rw [hE]; exact hP.sub [1, 2, 3, 0] rfl
      have hD9 : va_D A [(aO, .inr (0, [.ref aT, .ref aF, .int cw, .int ts, .ref a1, .ref a2, .ref a3, .ref a4, .ref a5])), (aT, .inl (cI, 8, .inl fT)), (aF, .inl (cL, 8, .inr (.inl fF))), (aV, .inl (cV, 1, .inr (.inl ((g_L_part fT fF fV ir iwh).2))))] := by rw [hE]; exact hD.sub [1, 2, 3, 0] (by decide) rfl
      exact W.iret (v := 1) hx hb hr (fun t ht hW => ⟨⟨1, (), rfl, by rw [hE], by rw [ht]; exact hP9, hD9⟩, hS.F ht⟩) hS.2.2 d_L_part_16
    · skip
      have c_5_1 : ¬ (x_O_part ir iwh) = 1 := by rw [c_5_2]; decide
      refine vx_catch (name := "java/lang/IllegalArgumentException") hown [⟨0, 10, 13, 19⟩] ⟨0, 10, 17, 13⟩ [] (htab.trans rfl) (fun z hz => by obtain rfl := List.mem_singleton.mp hz; exact Or.inr ⟨by decide, "java/lang/IndexOutOfBoundsException", htA _ k_391, hnc⟩) rfl (by decide) (htA _ k_386) (va_Nw.use rfl (hnw _ n_27)) hce9 hcv9 hcl9 ?_
      refine W.eq (g2 := F0 m 17 ls [.ref q9]) rfl ?_
      refine lv_astore (lv' := [(4, .ref q9), (0, .ref aO), (1, .int ir), (2, .int iwh), (3, .ref aV)]) hx hb d_L_part_17 hl (by decide) rfl (fun ls hl => ?_)
      refine lv_iconst (v := 2) hx hb d_L_part_19 (by decide) ?_
      have hE : g_L_part fT fF fV ir iwh = (2, fV) := by clear hP hD hl hS; unfold g_L_part; (try dsimp only); rw [if_neg c_5_1, if_pos c_5_2]
      have hP9 : va_P (dC, dI) classes [(aO, .inr (0, [.ref aT, .ref aF, .int cw, .int ts, .ref a1, .ref a2, .ref a3, .ref a4, .ref a5])), (aT, .inl (cI, 8, .inl fT)), (aF, .inl (cL, 8, .inr (.inl fF))), (aV, .inl (cV, 1, .inr (.inl ((g_L_part fT fF fV ir iwh).2))))] H := by rw [hE]; exact hP.sub [1, 2, 3, 0] rfl
      have hD9 : va_D A [(aO, .inr (0, [.ref aT, .ref aF, .int cw, .int ts, .ref a1, .ref a2, .ref a3, .ref a4, .ref a5])), (aT, .inl (cI, 8, .inl fT)), (aF, .inl (cL, 8, .inr (.inl fF))), (aV, .inl (cV, 1, .inr (.inl ((g_L_part fT fF fV ir iwh).2))))] := by rw [hE]; exact hD.sub [1, 2, 3, 0] (by decide) rfl
      exact W.iret (v := 2) hx hb hr (fun t ht hW => ⟨⟨2, (), rfl, by rw [hE], by rw [ht]; exact hP9, hD9⟩, hS.F ht⟩) hS.2.2 d_L_part_20
  · skip
    obtain ⟨hP1, hD1⟩ := hB9
    rw [ht9] at hP1
    obtain ⟨hP, hD⟩ := va_join (wr := [(aV, .inl (cV, 1, .inr (.inl fV)))]) hP hD [0, 1, 2] [3] rfl rfl (by decide) (by decide) hk9 hFc hP1 hD1
    generalize H9 = H at hP hS9 ⊢
    generalize locs9 = locs at hS9 ⊢
    have hS := hS9
    obtain ⟨hr9, hp9⟩ := hp9
    subst hr9
    have c_5_1 : ¬ (x_O_part ir iwh) = 1 := by rw [hp9]; decide
    have c_5_2 : ¬ (x_O_part ir iwh) = 2 := by rw [hp9]; decide
    have hP : va_P (dC, dI) classes [(aV, .inl (cV, 1, .inr (.inl fV))), (aO, .inr (0, [.ref aT, .ref aF, .int cw, .int ts, .ref a1, .ref a2, .ref a3, .ref a4, .ref a5])), (aT, .inl (cI, 8, .inl fT)), (aF, .inl (cL, 8, .inr (.inl fF)))] H := hP
    have hD : va_D A [(aV, .inl (cV, 1, .inr (.inl fV))), (aO, .inr (0, [.ref aT, .ref aF, .int cw, .int ts, .ref a1, .ref a2, .ref a3, .ref a4, .ref a5])), (aT, .inl (cI, 8, .inl fT)), (aF, .inl (cL, 8, .inr (.inl fF)))] := hD
    refine lv_i2l (v := (g_O_part fT fF ir iwh).toInt64) hx hb d_L_part_8 rfl ?_
    refine va_last hx hb hK hP hD hS 0 2 rfl rfl in1_0 d_L_part_9 (fun H locs hP hD hS => ?_)
    have hP : va_P (dC, dI) classes [(aV, .inl (cV, 1, .inr (.inl (vp_updL fV (0 : Int32).toNatClampNeg ((g_O_part fT fF ir iwh).toInt64))))), (aO, .inr (0, [.ref aT, .ref aF, .int cw, .int ts, .ref a1, .ref a2, .ref a3, .ref a4, .ref a5])), (aT, .inl (cI, 8, .inl fT)), (aF, .inl (cL, 8, .inr (.inl fF)))] H := hP
    have hD : va_D A [(aV, .inl (cV, 1, .inr (.inl (vp_updL fV (0 : Int32).toNatClampNeg ((g_O_part fT fF ir iwh).toInt64))))), (aO, .inr (0, [.ref aT, .ref aF, .int cw, .int ts, .ref a1, .ref a2, .ref a3, .ref a4, .ref a5])), (aT, .inl (cI, 8, .inl fT)), (aF, .inl (cL, 8, .inr (.inl fF)))] := hD
    refine lv_goto (tgt := 21) hx hb d_L_part_10 (by decide) ?_
    refine lv_iconst (v := 0) hx hb d_L_part_21 (by decide) ?_
    have hE : g_L_part fT fF fV ir iwh = (0, (vp_updL fV (0 : Int32).toNatClampNeg ((g_O_part fT fF ir iwh).toInt64))) := by clear hP hD hl hS; unfold g_L_part; (try dsimp only); rw [if_neg c_5_1, if_neg c_5_2]
    have hP9 : va_P (dC, dI) classes [(aO, .inr (0, [.ref aT, .ref aF, .int cw, .int ts, .ref a1, .ref a2, .ref a3, .ref a4, .ref a5])), (aT, .inl (cI, 8, .inl fT)), (aF, .inl (cL, 8, .inr (.inl fF))), (aV, .inl (cV, 1, .inr (.inl ((g_L_part fT fF fV ir iwh).2))))] H := by rw [hE]; exact hP.sub [1, 2, 3, 0] rfl
    have hD9 : va_D A [(aO, .inr (0, [.ref aT, .ref aF, .int cw, .int ts, .ref a1, .ref a2, .ref a3, .ref a4, .ref a5])), (aT, .inl (cI, 8, .inl fT)), (aF, .inl (cL, 8, .inr (.inl fF))), (aV, .inl (cV, 1, .inr (.inl ((g_L_part fT fF fV ir iwh).2))))] := by rw [hE]; exact hD.sub [1, 2, 3, 0] (by decide) rfl
    exact W.iret (v := 0) hx hb hr (fun t ht hW => ⟨⟨0, (), rfl, by rw [hE], by rw [ht]; exact hP9, hD9⟩, hS.F ht⟩) hS.2.2 d_L_part_22
theorem d_L_operate_0 : decode b_L_operate 0 = .ok (.aload 5, 2) := by decide +kernel
theorem d_L_operate_2 : decode b_L_operate 2 = .ok (.iconst 0, 1) := by decide +kernel
theorem d_L_operate_3 : decode b_L_operate 3 = .ok (.aload_n 0, 1) := by decide +kernel
theorem d_L_operate_4 : decode b_L_operate 4 = .ok (.iload_n 1, 1) := by decide +kernel
theorem d_L_operate_5 : decode b_L_operate 5 = .ok (.iload_n 2, 1) := by decide +kernel
theorem d_L_operate_6 : decode b_L_operate 6 = .ok (.iload_n 3, 1) := by decide +kernel
theorem d_L_operate_7 : decode b_L_operate 7 = .ok (.iload 4, 2) := by decide +kernel
theorem d_L_operate_9 : decode b_L_operate 9 = .ok (.invokevirtual 25, 3) := by decide +kernel
theorem d_L_operate_17 : decode b_L_operate 17 = .ok (.astore 6, 2) := by decide +kernel
theorem d_L_operate_19 : decode b_L_operate 19 = .ok (.iconst 1, 1) := by decide +kernel
theorem d_L_operate_20 : decode b_L_operate 20 = .ok (.ireturn, 1) := by decide +kernel
theorem d_L_operate_21 : decode b_L_operate 21 = .ok (.astore 6, 2) := by decide +kernel
theorem d_L_operate_23 : decode b_L_operate 23 = .ok (.iconst 2, 1) := by decide +kernel
theorem d_L_operate_24 : decode b_L_operate 24 = .ok (.ireturn, 1) := by decide +kernel
theorem d_L_operate_12 : decode b_L_operate 12 = .ok (.i2l, 1) := by decide +kernel
theorem d_L_operate_13 : decode b_L_operate 13 = .ok (.lastore, 1) := by decide +kernel
theorem d_L_operate_14 : decode b_L_operate 14 = .ok (.goto 11, 3) := by decide +kernel
theorem d_L_operate_25 : decode b_L_operate 25 = .ok (.iconst 0, 1) := by decide +kernel
theorem d_L_operate_26 : decode b_L_operate 26 = .ok (.ireturn, 1) := by decide +kernel
set_option maxHeartbeats 4000000 in
set_option maxRecDepth 100000 in
theorem c_L_operate (l : Launch) (hl9 : l.stackTraces = false) (dC : Nat → ClassId) (dI : Nat → Nat → Nat) (cI : ClassId) (cL : ClassId) (cV : ClassId) (aO : Nat) (aT : Nat) (aF : Nat) (a1 : Nat) (a2 : Nat) (a3 : Nat) (a4 : Nat) (a5 : Nat) (aV : Nat) (sz : Nat) (cw : Int32) (ts : Int32) (fT : Nat → Int32) (fF : Nat → Int64) (n1 : Bool) (p1 : Int32) (f1 : Int64) (n2 : Bool) (p2 : Int32) (f2 : Int64) (n3 : Bool) (p3 : Int32) (f3 : Int64) (hi : Int64) (lo : Int64) (ex : Int32) (hi2 : Int64) (lo2 : Int64) (ex2 : Int32) (fV : Nat → Int64) (iop : Int32) (ia : Int32) (ib : Int32) (ito : Int32) : Met l y_L_operate w_L_operate ({ frames := 8, cells := 1, slots := 6, locals := 191 }) (cPl (dC, dI) [(cI, .int), (cL, .long), (cV, .long)] [.ref aO, .int iop, .int ia, .int ib, .int ito, .ref aV] [(aO, .inr (0, [.ref aT, .ref aF, .int cw, .int ts, .ref a1, .ref a2, .ref a3, .ref a4, .ref a5])), (aT, .inl (cI, 8, .inl fT)), (aF, .inl (cL, 8, .inr (.inl fF))), (a1, .inr (1, [.int (b2i n1), .int p1, .long f1])), (a2, .inr (1, [.int (b2i n2), .int p2, .long f2])), (a3, .inr (1, [.int (b2i n3), .int p3, .long f3])), (a4, .inr (2, [.long hi, .long lo, .int ex])), (a5, .inr (2, [.long hi2, .long lo2, .int ex2])), (aV, .inl (cV, 1, .inr (.inl fV)))] sz) (va_Qi (fun (r : Int32) (_ : Unit) => r = (g_L_operate cw ts fT fF n1 p1 f1 n2 p2 f2 n3 p3 f3 hi lo ex hi2 lo2 ex2 fV iop ia ib ito).1) (fun _ t => va_P (dC, dI) classes [(aO, .inr (0, [.ref aT, .ref aF, .int cw, .int ((g_L_operate cw ts fT fF n1 p1 f1 n2 p2 f2 n3 p3 f3 hi lo ex hi2 lo2 ex2 fV iop ia ib ito).2.1), .ref a1, .ref a2, .ref a3, .ref a4, .ref a5])), (aT, .inl (cI, 8, .inl ((g_L_operate cw ts fT fF n1 p1 f1 n2 p2 f2 n3 p3 f3 hi lo ex hi2 lo2 ex2 fV iop ia ib ito).2.2.1))), (aF, .inl (cL, 8, .inr (.inl ((g_L_operate cw ts fT fF n1 p1 f1 n2 p2 f2 n3 p3 f3 hi lo ex hi2 lo2 ex2 fV iop ia ib ito).2.2.2.1)))), (a1, .inr (1, [.int (b2i ((g_L_operate cw ts fT fF n1 p1 f1 n2 p2 f2 n3 p3 f3 hi lo ex hi2 lo2 ex2 fV iop ia ib ito).2.2.2.2.1)), .int ((g_L_operate cw ts fT fF n1 p1 f1 n2 p2 f2 n3 p3 f3 hi lo ex hi2 lo2 ex2 fV iop ia ib ito).2.2.2.2.2.1), .long ((g_L_operate cw ts fT fF n1 p1 f1 n2 p2 f2 n3 p3 f3 hi lo ex hi2 lo2 ex2 fV iop ia ib ito).2.2.2.2.2.2.1)])), (a2, .inr (1, [.int (b2i ((g_L_operate cw ts fT fF n1 p1 f1 n2 p2 f2 n3 p3 f3 hi lo ex hi2 lo2 ex2 fV iop ia ib ito).2.2.2.2.2.2.2.1)), .int ((g_L_operate cw ts fT fF n1 p1 f1 n2 p2 f2 n3 p3 f3 hi lo ex hi2 lo2 ex2 fV iop ia ib ito).2.2.2.2.2.2.2.2.1), .long ((g_L_operate cw ts fT fF n1 p1 f1 n2 p2 f2 n3 p3 f3 hi lo ex hi2 lo2 ex2 fV iop ia ib ito).2.2.2.2.2.2.2.2.2.1)])), (a3, .inr (1, [.int (b2i ((g_L_operate cw ts fT fF n1 p1 f1 n2 p2 f2 n3 p3 f3 hi lo ex hi2 lo2 ex2 fV iop ia ib ito).2.2.2.2.2.2.2.2.2.2.1)), .int ((g_L_operate cw ts fT fF n1 p1 f1 n2 p2 f2 n3 p3 f3 hi lo ex hi2 lo2 ex2 fV iop ia ib ito).2.2.2.2.2.2.2.2.2.2.2.1), .long ((g_L_operate cw ts fT fF n1 p1 f1 n2 p2 f2 n3 p3 f3 hi lo ex hi2 lo2 ex2 fV iop ia ib ito).2.2.2.2.2.2.2.2.2.2.2.2.1)])), (a4, .inr (2, [.long ((g_L_operate cw ts fT fF n1 p1 f1 n2 p2 f2 n3 p3 f3 hi lo ex hi2 lo2 ex2 fV iop ia ib ito).2.2.2.2.2.2.2.2.2.2.2.2.2.1), .long ((g_L_operate cw ts fT fF n1 p1 f1 n2 p2 f2 n3 p3 f3 hi lo ex hi2 lo2 ex2 fV iop ia ib ito).2.2.2.2.2.2.2.2.2.2.2.2.2.2.1), .int ((g_L_operate cw ts fT fF n1 p1 f1 n2 p2 f2 n3 p3 f3 hi lo ex hi2 lo2 ex2 fV iop ia ib ito).2.2.2.2.2.2.2.2.2.2.2.2.2.2.2.1)])), (a5, .inr (2, [.long ((g_L_operate cw ts fT fF n1 p1 f1 n2 p2 f2 n3 p3 f3 hi lo ex hi2 lo2 ex2 fV iop ia ib ito).2.2.2.2.2.2.2.2.2.2.2.2.2.2.2.2.1), .long ((g_L_operate cw ts fT fF n1 p1 f1 n2 p2 f2 n3 p3 f3 hi lo ex hi2 lo2 ex2 fV iop ia ib ito).2.2.2.2.2.2.2.2.2.2.2.2.2.2.2.2.2.1), .int ((g_L_operate cw ts fT fF n1 p1 f1 n2 p2 f2 n3 p3 f3 hi lo ex hi2 lo2 ex2 fV iop ia ib ito).2.2.2.2.2.2.2.2.2.2.2.2.2.2.2.2.2.2.1)])), (aV, .inl (cV, 1, .inr (.inl ((g_L_operate cw ts fT fF n1 p1 f1 n2 p2 f2 n3 p3 f3 hi lo ex hi2 lo2 ex2 fV iop ia ib ito).2.2.2.2.2.2.2.2.2.2.2.2.2.2.2.2.2.2.2))))] t.heap ∧ va_D (va_A [(aO, .inr (0, [.ref aT, .ref aF, .int cw, .int ts, .ref a1, .ref a2, .ref a3, .ref a4, .ref a5])), (aT, .inl (cI, 8, .inl fT)), (aF, .inl (cL, 8, .inr (.inl fF))), (a1, .inr (1, [.int (b2i n1), .int p1, .long f1])), (a2, .inr (1, [.int (b2i n2), .int p2, .long f2])), (a3, .inr (1, [.int (b2i n3), .int p3, .long f3])), (a4, .inr (2, [.long hi, .long lo, .int ex])), (a5, .inr (2, [.long hi2, .long lo2, .int ex2])), (aV, .inl (cV, 1, .inr (.inl fV)))] sz) [(aO, .inr (0, [.ref aT, .ref aF, .int cw, .int ((g_L_operate cw ts fT fF n1 p1 f1 n2 p2 f2 n3 p3 f3 hi lo ex hi2 lo2 ex2 fV iop ia ib ito).2.1), .ref a1, .ref a2, .ref a3, .ref a4, .ref a5])), (aT, .inl (cI, 8, .inl ((g_L_operate cw ts fT fF n1 p1 f1 n2 p2 f2 n3 p3 f3 hi lo ex hi2 lo2 ex2 fV iop ia ib ito).2.2.1))), (aF, .inl (cL, 8, .inr (.inl ((g_L_operate cw ts fT fF n1 p1 f1 n2 p2 f2 n3 p3 f3 hi lo ex hi2 lo2 ex2 fV iop ia ib ito).2.2.2.1)))), (a1, .inr (1, [.int (b2i ((g_L_operate cw ts fT fF n1 p1 f1 n2 p2 f2 n3 p3 f3 hi lo ex hi2 lo2 ex2 fV iop ia ib ito).2.2.2.2.1)), .int ((g_L_operate cw ts fT fF n1 p1 f1 n2 p2 f2 n3 p3 f3 hi lo ex hi2 lo2 ex2 fV iop ia ib ito).2.2.2.2.2.1), .long ((g_L_operate cw ts fT fF n1 p1 f1 n2 p2 f2 n3 p3 f3 hi lo ex hi2 lo2 ex2 fV iop ia ib ito).2.2.2.2.2.2.1)])), (a2, .inr (1, [.int (b2i ((g_L_operate cw ts fT fF n1 p1 f1 n2 p2 f2 n3 p3 f3 hi lo ex hi2 lo2 ex2 fV iop ia ib ito).2.2.2.2.2.2.2.1)), .int ((g_L_operate cw ts fT fF n1 p1 f1 n2 p2 f2 n3 p3 f3 hi lo ex hi2 lo2 ex2 fV iop ia ib ito).2.2.2.2.2.2.2.2.1), .long ((g_L_operate cw ts fT fF n1 p1 f1 n2 p2 f2 n3 p3 f3 hi lo ex hi2 lo2 ex2 fV iop ia ib ito).2.2.2.2.2.2.2.2.2.1)])), (a3, .inr (1, [.int (b2i ((g_L_operate cw ts fT fF n1 p1 f1 n2 p2 f2 n3 p3 f3 hi lo ex hi2 lo2 ex2 fV iop ia ib ito).2.2.2.2.2.2.2.2.2.2.1)), .int ((g_L_operate cw ts fT fF n1 p1 f1 n2 p2 f2 n3 p3 f3 hi lo ex hi2 lo2 ex2 fV iop ia ib ito).2.2.2.2.2.2.2.2.2.2.2.1), .long ((g_L_operate cw ts fT fF n1 p1 f1 n2 p2 f2 n3 p3 f3 hi lo ex hi2 lo2 ex2 fV iop ia ib ito).2.2.2.2.2.2.2.2.2.2.2.2.1)])), (a4, .inr (2, [.long ((g_L_operate cw ts fT fF n1 p1 f1 n2 p2 f2 n3 p3 f3 hi lo ex hi2 lo2 ex2 fV iop ia ib ito).2.2.2.2.2.2.2.2.2.2.2.2.2.1), .long ((g_L_operate cw ts fT fF n1 p1 f1 n2 p2 f2 n3 p3 f3 hi lo ex hi2 lo2 ex2 fV iop ia ib ito).2.2.2.2.2.2.2.2.2.2.2.2.2.2.1), .int ((g_L_operate cw ts fT fF n1 p1 f1 n2 p2 f2 n3 p3 f3 hi lo ex hi2 lo2 ex2 fV iop ia ib ito).2.2.2.2.2.2.2.2.2.2.2.2.2.2.2.1)])), (a5, .inr (2, [.long ((g_L_operate cw ts fT fF n1 p1 f1 n2 p2 f2 n3 p3 f3 hi lo ex hi2 lo2 ex2 fV iop ia ib ito).2.2.2.2.2.2.2.2.2.2.2.2.2.2.2.2.1), .long ((g_L_operate cw ts fT fF n1 p1 f1 n2 p2 f2 n3 p3 f3 hi lo ex hi2 lo2 ex2 fV iop ia ib ito).2.2.2.2.2.2.2.2.2.2.2.2.2.2.2.2.2.1), .int ((g_L_operate cw ts fT fF n1 p1 f1 n2 p2 f2 n3 p3 f3 hi lo ex hi2 lo2 ex2 fV iop ia ib ito).2.2.2.2.2.2.2.2.2.2.2.2.2.2.2.2.2.2.1)])), (aV, .inl (cV, 1, .inr (.inl ((g_L_operate cw ts fT fF n1 p1 f1 n2 p2 f2 n3 p3 f3 hi lo ex hi2 lo2 ex2 fV iop ia ib ito).2.2.2.2.2.2.2.2.2.2.2.2.2.2.2.2.2.2.2))))]) (va_A [(aO, .inr (0, [.ref aT, .ref aF, .int cw, .int ts, .ref a1, .ref a2, .ref a3, .ref a4, .ref a5])), (aT, .inl (cI, 8, .inl fT)), (aF, .inl (cL, 8, .inr (.inl fF))), (a1, .inr (1, [.int (b2i n1), .int p1, .long f1])), (a2, .inr (1, [.int (b2i n2), .int p2, .long f2])), (a3, .inr (1, [.int (b2i n3), .int p3, .long f3])), (a4, .inr (2, [.long hi, .long lo, .int ex])), (a5, .inr (2, [.long hi2, .long lo2, .int ex2])), (aV, .inl (cV, 1, .inr (.inl fV)))] sz)) 1 6 (va_A [(aO, .inr (0, [.ref aT, .ref aF, .int cw, .int ts, .ref a1, .ref a2, .ref a3, .ref a4, .ref a5])), (aT, .inl (cI, 8, .inl fT)), (aF, .inl (cL, 8, .inr (.inl fF))), (a1, .inr (1, [.int (b2i n1), .int p1, .long f1])), (a2, .inr (1, [.int (b2i n2), .int p2, .long f2])), (a3, .inr (1, [.int (b2i n3), .int p3, .long f3])), (a4, .inr (2, [.long hi, .long lo, .int ex])), (a5, .inr (2, [.long hi2, .long lo2, .int ex2])), (aV, .inl (cV, 1, .inr (.inl fV)))] sz) := by
  refine va_MetW (cc := b_L_operate) (maxL := 7) (ret := (some .int)) (hh := [(0, 14, 17, 19), (0, 14, 21, 13)]) (by decide) rfl ?_
  intro p e s m args below meth c s₁ B hml hv
  obtain ⟨rfl, hsz, hP, hK, hD0, hnw, hZU, hZN, hsw, hnc⟩ := hv
  have hx := B.exec
  have hb := B.bytes
  have hr := B.returns
  have hts := atoms_spec (ws := w_L_operate) B.pre
  have htA : ∀ w ∈ wAll, w.before _ s = true := fun w h => hts w (List.mem_cons_of_mem _ h)
  have htab := vx_table (x := y_L_operate) B (hts _ List.mem_cons_self)
  have hown : s.vm.findClass R_L = some m.cls := findClass_of_methodNamed B.named
  have hlocks := B.notSynchronized
  subst hsz
  have hD := hD0.self (sz := s.heap.size)
  generalize hAe : va_A [(aO, .inr (0, [.ref aT, .ref aF, .int cw, .int ts, .ref a1, .ref a2, .ref a3, .ref a4, .ref a5])), (aT, .inl (cI, 8, .inl fT)), (aF, .inl (cL, 8, .inr (.inl fF))), (a1, .inr (1, [.int (b2i n1), .int p1, .long f1])), (a2, .inr (1, [.int (b2i n2), .int p2, .long f2])), (a3, .inr (1, [.int (b2i n3), .int p3, .long f3])), (a4, .inr (2, [.long hi, .long lo, .int ex])), (a5, .inr (2, [.long hi2, .long lo2, .int ex2])), (aV, .inl (cV, 1, .inr (.inl fV)))] s.heap.size = A at hD hZU hZN ⊢
  have hA : ∀ q : Nat, s.heap.size ≤ q → A q := fun q h => by rw [← hAe]; exact Or.inr h
  have hS : va_S A s.heap s.heap [] := va_S.rf
  have hP : va_P (dC, dI) classes [(aO, .inr (0, [.ref aT, .ref aF, .int cw, .int ts, .ref a1, .ref a2, .ref a3, .ref a4, .ref a5])), (aT, .inl (cI, 8, .inl fT)), (aF, .inl (cL, 8, .inr (.inl fF))), (a1, .inr (1, [.int (b2i n1), .int p1, .long f1])), (a2, .inr (1, [.int (b2i n2), .int p2, .long f2])), (a3, .inr (1, [.int (b2i n3), .int p3, .long f3])), (a4, .inr (2, [.long hi, .long lo, .int ex])), (a5, .inr (2, [.long hi2, .long lo2, .int ex2])), (aV, .inl (cV, 1, .inr (.inl fV)))] s.heap := hP
  obtain ⟨H, eH⟩ : ∃ z, z = s.heap := ⟨_, rfl⟩
  rw [← eH] at hP
  have hS : va_S A s.heap H [] := by rw [eH]; exact hS
  rw [← eH]
  generalize ([] : List Loc) = locs at hS ⊢
  have hl := lv_entry ([.ref aO, .int iop, .int ia, .int ib, .int ito, .ref aV]) (n := 7) (Nat.le_of_ble_eq_true rfl)
  rw [lg_entry_eq]
  generalize (lg_sl ([.ref aO, .int iop, .int ia, .int ib, .int ito, .ref aV]) ++ List.replicate (7 - (lg_sl ([.ref aO, .int iop, .int ia, .int ib, .int ito, .ref aV])).length) Slot.unset).toArray = ls at hl ⊢
  have hl : lv_has ls 7 [(0, .ref aO), (1, .int iop), (2, .int ia), (3, .int ib), (4, .int ito), (5, .ref aV)] := hl
  refine lv_aload hx hb d_L_operate_0 (lv_at hl 5 rfl) ?_
  refine lv_iconst (v := 0) hx hb d_L_operate_2 (by decide) ?_
  refine lv_aload_n hx hb d_L_operate_3 rfl (lv_at hl 0 rfl) ?_
  refine lv_iload_n hx hb d_L_operate_4 rfl (lv_at hl 1 rfl) ?_
  refine lv_iload_n hx hb d_L_operate_5 rfl (lv_at hl 2 rfl) ?_
  refine lv_iload_n hx hb d_L_operate_6 rfl (lv_at hl 3 rfl) ?_
  refine lv_iload hx hb d_L_operate_7 (lv_at hl 4 rfl) ?_
  have hPc := hP.sub (ws' := [(aO, .inr (0, [.ref aT, .ref aF, .int cw, .int ts, .ref a1, .ref a2, .ref a3, .ref a4, .ref a5])), (aT, .inl (cI, 8, .inl fT)), (aF, .inl (cL, 8, .inr (.inl fF))), (a1, .inr (1, [.int (b2i n1), .int p1, .long f1])), (a2, .inr (1, [.int (b2i n2), .int p2, .long f2])), (a3, .inr (1, [.int (b2i n3), .int p3, .long f3])), (a4, .inr (2, [.long hi, .long lo, .int ex])), (a5, .inr (2, [.long hi2, .long lo2, .int ex2]))]) [0, 1, 2, 3, 4, 5, 6, 7] rfl
  have hDc := hD.sub (ws' := [(aO, .inr (0, [.ref aT, .ref aF, .int cw, .int ts, .ref a1, .ref a2, .ref a3, .ref a4, .ref a5])), (aT, .inl (cI, 8, .inl fT)), (aF, .inl (cL, 8, .inr (.inl fF))), (a1, .inr (1, [.int (b2i n1), .int p1, .long f1])), (a2, .inr (1, [.int (b2i n2), .int p2, .long f2])), (a3, .inr (1, [.int (b2i n3), .int p3, .long f3])), (a4, .inr (2, [.long hi, .long lo, .int ex])), (a5, .inr (2, [.long hi2, .long lo2, .int ex2]))]) [0, 1, 2, 3, 4, 5, 6, 7] (by decide) rfl
  have hKc := hK.sub (tys' := [(cI, .int), (cL, .long)]) [0, 1] rfl
  have hFc := va_free (wc := [(aO, .inr (0, [.ref aT, .ref aF, .int cw, .int ts, .ref a1, .ref a2, .ref a3, .ref a4, .ref a5])), (aT, .inl (cI, 8, .inl fT)), (aF, .inl (cL, 8, .inr (.inl fF))), (a1, .inr (1, [.int (b2i n1), .int p1, .long f1])), (a2, .inr (1, [.int (b2i n2), .int p2, .long f2])), (a3, .inr (1, [.int (b2i n3), .int p3, .long f3])), (a4, .inr (2, [.long hi, .long lo, .int ex])), (a5, .inr (2, [.long hi2, .long lo2, .int ex2]))]) hD hS hA [0, 1, 2, 3, 4, 5, 6, 7] rfl
  refine vx_calli (vx_runV (As := [.int iop, .int ia, .int ib, .int ito]) (rest := [.int 0, .ref aV]) ⟨hx, hb, hml, hown, htA⟩ (c_O_operate l hl9 dC dI cI cL aO aT aF a1 a2 a3 a4 a5 H.size cw ts fT fF n1 p1 f1 n2 p2 f2 n3 p3 f3 hi lo ex hi2 lo2 ex2 iop ia ib ito) (cwV 4 htA (gi_V k_397 k_398 k_399 k_90 (gi_code k_226)) rfl rfl rfl (by decide +kernel) ⟨Nat.le_of_ble_eq_true rfl, Nat.le_of_ble_eq_true rfl⟩) (pre_X hnw hsw hZU hZN hS hFc hPc hKc hDc (ci := 0) (q0 := 0) rfl rfl) rfl rfl hl.1 rfl (lv_room (Nat.le_of_ble_eq_true rfl)) d_L_operate_9 ⟨Nat.le_of_ble_eq_true rfl, Nat.le_of_ble_eq_true rfl⟩) hS (fun q _ h => hFc q h) hFc (fun q _ h => hFc q h) (fun E9 ce9 q9 u9 t9 H9 locs9 ht9 hvm9 hpx9 hB9 hz9 hk9 hS9 hce9 hcv9 hcl9 => ?_) (fun r9 u9 t9 H9 locs9 ht9 hvm9 hp9 hB9 hz9 hk9 hS9 => ?_)
  · skip
    obtain ⟨hE9, hP1, hD1⟩ := hB9
    rw [ht9] at hP1
    obtain ⟨hP, hD⟩ := va_join (wr := [(aV, .inl (cV, 1, .inr (.inl fV)))]) hP hD [0, 1, 2, 3, 4, 5, 6, 7] [8] rfl rfl (by decide) (by decide) hk9 hFc hP1 hD1
    generalize H9 = H at hP hS9 hce9 ⊢
    generalize locs9 = locs at hS9 ⊢
    have hS := hS9
    have hP : va_P (dC, dI) classes [(aV, .inl (cV, 1, .inr (.inl fV))), (aO, .inr (0, [.ref aT, .ref aF, .int cw, .int ts, .ref a1, .ref a2, .ref a3, .ref a4, .ref a5])), (aT, .inl (cI, 8, .inl fT)), (aF, .inl (cL, 8, .inr (.inl fF))), (a1, .inr (1, [.int (b2i n1), .int p1, .long f1])), (a2, .inr (1, [.int (b2i n2), .int p2, .long f2])), (a3, .inr (1, [.int (b2i n3), .int p3, .long f3])), (a4, .inr (2, [.long hi, .long lo, .int ex])), (a5, .inr (2, [.long hi2, .long lo2, .int ex2]))] H := hP
    have hD : va_D A [(aV, .inl (cV, 1, .inr (.inl fV))), (aO, .inr (0, [.ref aT, .ref aF, .int cw, .int ts, .ref a1, .ref a2, .ref a3, .ref a4, .ref a5])), (aT, .inl (cI, 8, .inl fT)), (aF, .inl (cL, 8, .inr (.inl fF))), (a1, .inr (1, [.int (b2i n1), .int p1, .long f1])), (a2, .inr (1, [.int (b2i n2), .int p2, .long f2])), (a3, .inr (1, [.int (b2i n3), .int p3, .long f3])), (a4, .inr (2, [.long hi, .long lo, .int ex])), (a5, .inr (2, [.long hi2, .long lo2, .int ex2]))] := hD
    rcases hE9 with ⟨c_9_1, rfl⟩ | ⟨c_9_2, rfl⟩
    · skip
      refine vx_catch (name := "java/lang/IndexOutOfBoundsException") hown [] ⟨0, 14, 17, 19⟩ [⟨0, 14, 21, 13⟩] (htab.trans rfl) (fun z hz => absurd hz List.not_mem_nil) rfl (by decide) (htA _ k_391) (va_Nw.use rfl (hnw _ n_31)) hce9 hcv9 hcl9 ?_
      refine W.eq (g2 := F0 m 17 ls [.ref q9]) rfl ?_
      refine lv_astore (lv' := [(6, .ref q9), (0, .ref aO), (1, .int iop), (2, .int ia), (3, .int ib), (4, .int ito), (5, .ref aV)]) hx hb d_L_operate_17 hl (by decide) rfl (fun ls hl => ?_)
      refine lv_iconst (v := 1) hx hb d_L_operate_19 (by decide) ?_
      have hE : g_L_operate cw ts fT fF n1 p1 f1 n2 p2 f2 n3 p3 f3 hi lo ex hi2 lo2 ex2 fV iop ia ib ito = (1, ts, fT, fF, n1, p1, f1, n2, p2, f2, n3, p3, f3, hi, lo, ex, hi2, lo2, ex2, fV) := by clear hP hD hl hS; unfold g_L_operate; (try dsimp only); rw [if_pos c_9_1]
      have hP9 : va_P (dC, dI) classes [(aO, .inr (0, [.ref aT, .ref aF, .int cw, .int ((g_L_operate cw ts fT fF n1 p1 f1 n2 p2 f2 n3 p3 f3 hi lo ex hi2 lo2 ex2 fV iop ia ib ito).2.1), .ref a1, .ref a2, .ref a3, .ref a4, .ref a5])), (aT, .inl (cI, 8, .inl ((g_L_operate cw ts fT fF n1 p1 f1 n2 p2 f2 n3 p3 f3 hi lo ex hi2 lo2 ex2 fV iop ia ib ito).2.2.1))), (aF, .inl (cL, 8, .inr (.inl ((g_L_operate cw ts fT fF n1 p1 f1 n2 p2 f2 n3 p3 f3 hi lo ex hi2 lo2 ex2 fV iop ia ib ito).2.2.2.1)))), (a1, .inr (1, [.int (b2i ((g_L_operate cw ts fT fF n1 p1 f1 n2 p2 f2 n3 p3 f3 hi lo ex hi2 lo2 ex2 fV iop ia ib ito).2.2.2.2.1)), .int ((g_L_operate cw ts fT fF n1 p1 f1 n2 p2 f2 n3 p3 f3 hi lo ex hi2 lo2 ex2 fV iop ia ib ito).2.2.2.2.2.1), .long ((g_L_operate cw ts fT fF n1 p1 f1 n2 p2 f2 n3 p3 f3 hi lo ex hi2 lo2 ex2 fV iop ia ib ito).2.2.2.2.2.2.1)])), (a2, .inr (1, [.int (b2i ((g_L_operate cw ts fT fF n1 p1 f1 n2 p2 f2 n3 p3 f3 hi lo ex hi2 lo2 ex2 fV iop ia ib ito).2.2.2.2.2.2.2.1)), .int ((g_L_operate cw ts fT fF n1 p1 f1 n2 p2 f2 n3 p3 f3 hi lo ex hi2 lo2 ex2 fV iop ia ib ito).2.2.2.2.2.2.2.2.1), .long ((g_L_operate cw ts fT fF n1 p1 f1 n2 p2 f2 n3 p3 f3 hi lo ex hi2 lo2 ex2 fV iop ia ib ito).2.2.2.2.2.2.2.2.2.1)])), (a3, .inr (1, [.int (b2i ((g_L_operate cw ts fT fF n1 p1 f1 n2 p2 f2 n3 p3 f3 hi lo ex hi2 lo2 ex2 fV iop ia ib ito).2.2.2.2.2.2.2.2.2.2.1)), .int ((g_L_operate cw ts fT fF n1 p1 f1 n2 p2 f2 n3 p3 f3 hi lo ex hi2 lo2 ex2 fV iop ia ib ito).2.2.2.2.2.2.2.2.2.2.2.1), .long ((g_L_operate cw ts fT fF n1 p1 f1 n2 p2 f2 n3 p3 f3 hi lo ex hi2 lo2 ex2 fV iop ia ib ito).2.2.2.2.2.2.2.2.2.2.2.2.1)])), (a4, .inr (2, [.long ((g_L_operate cw ts fT fF n1 p1 f1 n2 p2 f2 n3 p3 f3 hi lo ex hi2 lo2 ex2 fV iop ia ib ito).2.2.2.2.2.2.2.2.2.2.2.2.2.1), .long ((g_L_operate cw ts fT fF n1 p1 f1 n2 p2 f2 n3 p3 f3 hi lo ex hi2 lo2 ex2 fV iop ia ib ito).2.2.2.2.2.2.2.2.2.2.2.2.2.2.1), .int ((g_L_operate cw ts fT fF n1 p1 f1 n2 p2 f2 n3 p3 f3 hi lo ex hi2 lo2 ex2 fV iop ia ib ito).2.2.2.2.2.2.2.2.2.2.2.2.2.2.2.1)])), (a5, .inr (2, [.long ((g_L_operate cw ts fT fF n1 p1 f1 n2 p2 f2 n3 p3 f3 hi lo ex hi2 lo2 ex2 fV iop ia ib ito).2.2.2.2.2.2.2.2.2.2.2.2.2.2.2.2.1), .long ((g_L_operate cw ts fT fF n1 p1 f1 n2 p2 f2 n3 p3 f3 hi lo ex hi2 lo2 ex2 fV iop ia ib ito).2.2.2.2.2.2.2.2.2.2.2.2.2.2.2.2.2.1), .int ((g_L_operate cw ts fT fF n1 p1 f1 n2 p2 f2 n3 p3 f3 hi lo ex hi2 lo2 ex2 fV iop ia ib ito).2.2.2.2.2.2.2.2.2.2.2.2.2.2.2.2.2.2.1)])), (aV, .inl (cV, 1, .inr (.inl ((g_L_operate cw ts fT fF n1 p1 f1 n2 p2 f2 n3 p3 f3 hi lo ex hi2 lo2 ex2 fV iop ia ib ito).2.2.2.2.2.2.2.2.2.2.2.2.2.2.2.2.2.2.2))))] H := by rw [hE]; exact hP.sub [1, 2, 3, 4, 5, 6, 7, 8, 0] rfl
      have hD9 : va_D A [(aO, .inr (0, [.ref aT, .ref aF, .int cw, .int ((g_L_operate cw ts fT fF n1 p1 f1 n2 p2 f2 n3 p3 f3 hi lo ex hi2 lo2 ex2 fV iop ia ib ito).2.1), .ref a1, .ref a2, .ref a3, .ref a4, .ref a5])), (aT, .inl (cI, 8, .inl ((g_L_operate cw ts fT fF n1 p1 f1 n2 p2 f2 n3 p3 f3 hi lo ex hi2 lo2 ex2 fV iop ia ib ito).2.2.1))), (aF, .inl (cL, 8, .inr (.inl ((g_L_operate cw ts fT fF n1 p1 f1 n2 p2 f2 n3 p3 f3 hi lo ex hi2 lo2 ex2 fV iop ia ib ito).2.2.2.1)))), (a1, .inr (1, [.int (b2i ((g_L_operate cw ts fT fF n1 p1 f1 n2 p2 f2 n3 p3 f3 hi lo ex hi2 lo2 ex2 fV iop ia ib ito).2.2.2.2.1)), .int ((g_L_operate cw ts fT fF n1 p1 f1 n2 p2 f2 n3 p3 f3 hi lo ex hi2 lo2 ex2 fV iop ia ib ito).2.2.2.2.2.1), .long ((g_L_operate cw ts fT fF n1 p1 f1 n2 p2 f2 n3 p3 f3 hi lo ex hi2 lo2 ex2 fV iop ia ib ito).2.2.2.2.2.2.1)])), (a2, .inr (1, [.int (b2i ((g_L_operate cw ts fT fF n1 p1 f1 n2 p2 f2 n3 p3 f3 hi lo ex hi2 lo2 ex2 fV iop ia ib ito).2.2.2.2.2.2.2.1)), .int ((g_L_operate cw ts fT fF n1 p1 f1 n2 p2 f2 n3 p3 f3 hi lo ex hi2 lo2 ex2 fV iop ia ib ito).2.2.2.2.2.2.2.2.1), .long ((g_L_operate cw ts fT fF n1 p1 f1 n2 p2 f2 n3 p3 f3 hi lo ex hi2 lo2 ex2 fV iop ia ib ito).2.2.2.2.2.2.2.2.2.1)])), (a3, .inr (1, [.int (b2i ((g_L_operate cw ts fT fF n1 p1 f1 n2 p2 f2 n3 p3 f3 hi lo ex hi2 lo2 ex2 fV iop ia ib ito).2.2.2.2.2.2.2.2.2.2.1)), .int ((g_L_operate cw ts fT fF n1 p1 f1 n2 p2 f2 n3 p3 f3 hi lo ex hi2 lo2 ex2 fV iop ia ib ito).2.2.2.2.2.2.2.2.2.2.2.1), .long ((g_L_operate cw ts fT fF n1 p1 f1 n2 p2 f2 n3 p3 f3 hi lo ex hi2 lo2 ex2 fV iop ia ib ito).2.2.2.2.2.2.2.2.2.2.2.2.1)])), (a4, .inr (2, [.long ((g_L_operate cw ts fT fF n1 p1 f1 n2 p2 f2 n3 p3 f3 hi lo ex hi2 lo2 ex2 fV iop ia ib ito).2.2.2.2.2.2.2.2.2.2.2.2.2.1), .long ((g_L_operate cw ts fT fF n1 p1 f1 n2 p2 f2 n3 p3 f3 hi lo ex hi2 lo2 ex2 fV iop ia ib ito).2.2.2.2.2.2.2.2.2.2.2.2.2.2.1), .int ((g_L_operate cw ts fT fF n1 p1 f1 n2 p2 f2 n3 p3 f3 hi lo ex hi2 lo2 ex2 fV iop ia ib ito).2.2.2.2.2.2.2.2.2.2.2.2.2.2.2.1)])), (a5, .inr (2, [.long ((g_L_operate cw ts fT fF n1 p1 f1 n2 p2 f2 n3 p3 f3 hi lo ex hi2 lo2 ex2 fV iop ia ib ito).2.2.2.2.2.2.2.2.2.2.2.2.2.2.2.2.1), .long ((g_L_operate cw ts fT fF n1 p1 f1 n2 p2 f2 n3 p3 f3 hi lo ex hi2 lo2 ex2 fV iop ia ib ito).2.2.2.2.2.2.2.2.2.2.2.2.2.2.2.2.2.1), .int ((g_L_operate cw ts fT fF n1 p1 f1 n2 p2 f2 n3 p3 f3 hi lo ex hi2 lo2 ex2 fV iop ia ib ito).2.2.2.2.2.2.2.2.2.2.2.2.2.2.2.2.2.2.1)])), (aV, .inl (cV, 1, .inr (.inl ((g_L_operate cw ts fT fF n1 p1 f1 n2 p2 f2 n3 p3 f3 hi lo ex hi2 lo2 ex2 fV iop ia ib ito).2.2.2.2.2.2.2.2.2.2.2.2.2.2.2.2.2.2.2))))] := by rw [hE]; exact hD.sub [1, 2, 3, 4, 5, 6, 7, 8, 0] (by decide) rfl
      exact W.iret (v := 1) hx hb hr (fun t ht hW => ⟨⟨1, (), rfl, by rw [hE], by rw [ht]; exact hP9, hD9⟩, hS.F ht⟩) hS.2.2 d_L_operate_20
    · skip
      have c_9_1 : ¬ (x_O_operate cw fT fF n3 p3 f3 hi lo ex hi2 lo2 ex2 iop ia ib ito) = 1 := by rw [c_9_2]; decide
      refine vx_catch (name := "java/lang/IllegalArgumentException") hown [⟨0, 14, 17, 19⟩] ⟨0, 14, 21, 13⟩ [] (htab.trans rfl) (fun z hz => by obtain rfl := List.mem_singleton.mp hz; exact Or.inr ⟨by decide, "java/lang/IndexOutOfBoundsException", htA _ k_391, hnc⟩) rfl (by decide) (htA _ k_386) (va_Nw.use rfl (hnw _ n_27)) hce9 hcv9 hcl9 ?_
      refine W.eq (g2 := F0 m 21 ls [.ref q9]) rfl ?_
      refine lv_astore (lv' := [(6, .ref q9), (0, .ref aO), (1, .int iop), (2, .int ia), (3, .int ib), (4, .int ito), (5, .ref aV)]) hx hb d_L_operate_21 hl (by decide) rfl (fun ls hl => ?_)
      refine lv_iconst (v := 2) hx hb d_L_operate_23 (by decide) ?_
      have hE : g_L_operate cw ts fT fF n1 p1 f1 n2 p2 f2 n3 p3 f3 hi lo ex hi2 lo2 ex2 fV iop ia ib ito = (2, ts, fT, fF, n1, p1, f1, n2, p2, f2, n3, p3, f3, hi, lo, ex, hi2, lo2, ex2, fV) := by clear hP hD hl hS; unfold g_L_operate; (try dsimp only); rw [if_neg c_9_1, if_pos c_9_2]
      have hP9 : va_P (dC, dI) classes [(aO, .inr (0, [.ref aT, .ref aF, .int cw, .int ((g_L_operate cw ts fT fF n1 p1 f1 n2 p2 f2 n3 p3 f3 hi lo ex hi2 lo2 ex2 fV iop ia ib ito).2.1), .ref a1, .ref a2, .ref a3, .ref a4, .ref a5])), (aT, .inl (cI, 8, .inl ((g_L_operate cw ts fT fF n1 p1 f1 n2 p2 f2 n3 p3 f3 hi lo ex hi2 lo2 ex2 fV iop ia ib ito).2.2.1))), (aF, .inl (cL, 8, .inr (.inl ((g_L_operate cw ts fT fF n1 p1 f1 n2 p2 f2 n3 p3 f3 hi lo ex hi2 lo2 ex2 fV iop ia ib ito).2.2.2.1)))), (a1, .inr (1, [.int (b2i ((g_L_operate cw ts fT fF n1 p1 f1 n2 p2 f2 n3 p3 f3 hi lo ex hi2 lo2 ex2 fV iop ia ib ito).2.2.2.2.1)), .int ((g_L_operate cw ts fT fF n1 p1 f1 n2 p2 f2 n3 p3 f3 hi lo ex hi2 lo2 ex2 fV iop ia ib ito).2.2.2.2.2.1), .long ((g_L_operate cw ts fT fF n1 p1 f1 n2 p2 f2 n3 p3 f3 hi lo ex hi2 lo2 ex2 fV iop ia ib ito).2.2.2.2.2.2.1)])), (a2, .inr (1, [.int (b2i ((g_L_operate cw ts fT fF n1 p1 f1 n2 p2 f2 n3 p3 f3 hi lo ex hi2 lo2 ex2 fV iop ia ib ito).2.2.2.2.2.2.2.1)), .int ((g_L_operate cw ts fT fF n1 p1 f1 n2 p2 f2 n3 p3 f3 hi lo ex hi2 lo2 ex2 fV iop ia ib ito).2.2.2.2.2.2.2.2.1), .long ((g_L_operate cw ts fT fF n1 p1 f1 n2 p2 f2 n3 p3 f3 hi lo ex hi2 lo2 ex2 fV iop ia ib ito).2.2.2.2.2.2.2.2.2.1)])), (a3, .inr (1, [.int (b2i ((g_L_operate cw ts fT fF n1 p1 f1 n2 p2 f2 n3 p3 f3 hi lo ex hi2 lo2 ex2 fV iop ia ib ito).2.2.2.2.2.2.2.2.2.2.1)), .int ((g_L_operate cw ts fT fF n1 p1 f1 n2 p2 f2 n3 p3 f3 hi lo ex hi2 lo2 ex2 fV iop ia ib ito).2.2.2.2.2.2.2.2.2.2.2.1), .long ((g_L_operate cw ts fT fF n1 p1 f1 n2 p2 f2 n3 p3 f3 hi lo ex hi2 lo2 ex2 fV iop ia ib ito).2.2.2.2.2.2.2.2.2.2.2.2.1)])), (a4, .inr (2, [.long ((g_L_operate cw ts fT fF n1 p1 f1 n2 p2 f2 n3 p3 f3 hi lo ex hi2 lo2 ex2 fV iop ia ib ito).2.2.2.2.2.2.2.2.2.2.2.2.2.1), .long ((g_L_operate cw ts fT fF n1 p1 f1 n2 p2 f2 n3 p3 f3 hi lo ex hi2 lo2 ex2 fV iop ia ib ito).2.2.2.2.2.2.2.2.2.2.2.2.2.2.1), .int ((g_L_operate cw ts fT fF n1 p1 f1 n2 p2 f2 n3 p3 f3 hi lo ex hi2 lo2 ex2 fV iop ia ib ito).2.2.2.2.2.2.2.2.2.2.2.2.2.2.2.1)])), (a5, .inr (2, [.long ((g_L_operate cw ts fT fF n1 p1 f1 n2 p2 f2 n3 p3 f3 hi lo ex hi2 lo2 ex2 fV iop ia ib ito).2.2.2.2.2.2.2.2.2.2.2.2.2.2.2.2.1), .long ((g_L_operate cw ts fT fF n1 p1 f1 n2 p2 f2 n3 p3 f3 hi lo ex hi2 lo2 ex2 fV iop ia ib ito).2.2.2.2.2.2.2.2.2.2.2.2.2.2.2.2.2.1), .int ((g_L_operate cw ts fT fF n1 p1 f1 n2 p2 f2 n3 p3 f3 hi lo ex hi2 lo2 ex2 fV iop ia ib ito).2.2.2.2.2.2.2.2.2.2.2.2.2.2.2.2.2.2.1)])), (aV, .inl (cV, 1, .inr (.inl ((g_L_operate cw ts fT fF n1 p1 f1 n2 p2 f2 n3 p3 f3 hi lo ex hi2 lo2 ex2 fV iop ia ib ito).2.2.2.2.2.2.2.2.2.2.2.2.2.2.2.2.2.2.2))))] H := by rw [hE]; exact hP.sub [1, 2, 3, 4, 5, 6, 7, 8, 0] rfl
      have hD9 : va_D A [(aO, .inr (0, [.ref aT, .ref aF, .int cw, .int ((g_L_operate cw ts fT fF n1 p1 f1 n2 p2 f2 n3 p3 f3 hi lo ex hi2 lo2 ex2 fV iop ia ib ito).2.1), .ref a1, .ref a2, .ref a3, .ref a4, .ref a5])), (aT, .inl (cI, 8, .inl ((g_L_operate cw ts fT fF n1 p1 f1 n2 p2 f2 n3 p3 f3 hi lo ex hi2 lo2 ex2 fV iop ia ib ito).2.2.1))), (aF, .inl (cL, 8, .inr (.inl ((g_L_operate cw ts fT fF n1 p1 f1 n2 p2 f2 n3 p3 f3 hi lo ex hi2 lo2 ex2 fV iop ia ib ito).2.2.2.1)))), (a1, .inr (1, [.int (b2i ((g_L_operate cw ts fT fF n1 p1 f1 n2 p2 f2 n3 p3 f3 hi lo ex hi2 lo2 ex2 fV iop ia ib ito).2.2.2.2.1)), .int ((g_L_operate cw ts fT fF n1 p1 f1 n2 p2 f2 n3 p3 f3 hi lo ex hi2 lo2 ex2 fV iop ia ib ito).2.2.2.2.2.1), .long ((g_L_operate cw ts fT fF n1 p1 f1 n2 p2 f2 n3 p3 f3 hi lo ex hi2 lo2 ex2 fV iop ia ib ito).2.2.2.2.2.2.1)])), (a2, .inr (1, [.int (b2i ((g_L_operate cw ts fT fF n1 p1 f1 n2 p2 f2 n3 p3 f3 hi lo ex hi2 lo2 ex2 fV iop ia ib ito).2.2.2.2.2.2.2.1)), .int ((g_L_operate cw ts fT fF n1 p1 f1 n2 p2 f2 n3 p3 f3 hi lo ex hi2 lo2 ex2 fV iop ia ib ito).2.2.2.2.2.2.2.2.1), .long ((g_L_operate cw ts fT fF n1 p1 f1 n2 p2 f2 n3 p3 f3 hi lo ex hi2 lo2 ex2 fV iop ia ib ito).2.2.2.2.2.2.2.2.2.1)])), (a3, .inr (1, [.int (b2i ((g_L_operate cw ts fT fF n1 p1 f1 n2 p2 f2 n3 p3 f3 hi lo ex hi2 lo2 ex2 fV iop ia ib ito).2.2.2.2.2.2.2.2.2.2.1)), .int ((g_L_operate cw ts fT fF n1 p1 f1 n2 p2 f2 n3 p3 f3 hi lo ex hi2 lo2 ex2 fV iop ia ib ito).2.2.2.2.2.2.2.2.2.2.2.1), .long ((g_L_operate cw ts fT fF n1 p1 f1 n2 p2 f2 n3 p3 f3 hi lo ex hi2 lo2 ex2 fV iop ia ib ito).2.2.2.2.2.2.2.2.2.2.2.2.1)])), (a4, .inr (2, [.long ((g_L_operate cw ts fT fF n1 p1 f1 n2 p2 f2 n3 p3 f3 hi lo ex hi2 lo2 ex2 fV iop ia ib ito).2.2.2.2.2.2.2.2.2.2.2.2.2.1), .long ((g_L_operate cw ts fT fF n1 p1 f1 n2 p2 f2 n3 p3 f3 hi lo ex hi2 lo2 ex2 fV iop ia ib ito).2.2.2.2.2.2.2.2.2.2.2.2.2.2.1), .int ((g_L_operate cw ts fT fF n1 p1 f1 n2 p2 f2 n3 p3 f3 hi lo ex hi2 lo2 ex2 fV iop ia ib ito).2.2.2.2.2.2.2.2.2.2.2.2.2.2.2.1)])), (a5, .inr (2, [.long ((g_L_operate cw ts fT fF n1 p1 f1 n2 p2 f2 n3 p3 f3 hi lo ex hi2 lo2 ex2 fV iop ia ib ito).2.2.2.2.2.2.2.2.2.2.2.2.2.2.2.2.1), .long ((g_L_operate cw ts fT fF n1 p1 f1 n2 p2 f2 n3 p3 f3 hi lo ex hi2 lo2 ex2 fV iop ia ib ito).2.2.2.2.2.2.2.2.2.2.2.2.2.2.2.2.2.1), .int ((g_L_operate cw ts fT fF n1 p1 f1 n2 p2 f2 n3 p3 f3 hi lo ex hi2 lo2 ex2 fV iop ia ib ito).2.2.2.2.2.2.2.2.2.2.2.2.2.2.2.2.2.2.1)])), (aV, .inl (cV, 1, .inr (.inl ((g_L_operate cw ts fT fF n1 p1 f1 n2 p2 f2 n3 p3 f3 hi lo ex hi2 lo2 ex2 fV iop ia ib ito).2.2.2.2.2.2.2.2.2.2.2.2.2.2.2.2.2.2.2))))] := by rw [hE]; exact hD.sub [1, 2, 3, 4, 5, 6, 7, 8, 0] (by decide) rfl
      exact W.iret (v := 2) hx hb hr (fun t ht hW => ⟨⟨2, (), rfl, by rw [hE], by rw [ht]; exact hP9, hD9⟩, hS.F ht⟩) hS.2.2 d_L_operate_24
  · skip
    obtain ⟨hP1, hD1⟩ := hB9
    rw [ht9] at hP1
    obtain ⟨hP, hD⟩ := va_join (wr := [(aV, .inl (cV, 1, .inr (.inl fV)))]) hP hD [0, 1, 2, 3, 4, 5, 6, 7] [8] rfl rfl (by decide) (by decide) hk9 hFc hP1 hD1
    generalize H9 = H at hP hS9 ⊢
    generalize locs9 = locs at hS9 ⊢
    have hS := hS9
    obtain ⟨hr9, hp9⟩ := hp9
    subst hr9
    have c_9_1 : ¬ (x_O_operate cw fT fF n3 p3 f3 hi lo ex hi2 lo2 ex2 iop ia ib ito) = 1 := by rw [hp9]; decide
    have c_9_2 : ¬ (x_O_operate cw fT fF n3 p3 f3 hi lo ex hi2 lo2 ex2 iop ia ib ito) = 2 := by rw [hp9]; decide
    obtain ⟨z9, ez9⟩ : ∃ z, g_O_operate cw ts fT fF n1 p1 f1 n2 p2 f2 n3 p3 f3 hi lo ex hi2 lo2 ex2 iop ia ib ito = z := ⟨_, rfl⟩
    rw [ez9] at hP hD ⊢
    have hP : va_P (dC, dI) classes [(aV, .inl (cV, 1, .inr (.inl fV))), (aO, .inr (0, [.ref aT, .ref aF, .int cw, .int z9.2.1, .ref a1, .ref a2, .ref a3, .ref a4, .ref a5])), (aT, .inl (cI, 8, .inl z9.2.2.1)), (aF, .inl (cL, 8, .inr (.inl z9.2.2.2.1))), (a1, .inr (1, [.int (b2i z9.2.2.2.2.1), .int z9.2.2.2.2.2.1, .long z9.2.2.2.2.2.2.1])), (a2, .inr (1, [.int (b2i z9.2.2.2.2.2.2.2.1), .int z9.2.2.2.2.2.2.2.2.1, .long z9.2.2.2.2.2.2.2.2.2.1])), (a3, .inr (1, [.int (b2i z9.2.2.2.2.2.2.2.2.2.2.1), .int z9.2.2.2.2.2.2.2.2.2.2.2.1, .long z9.2.2.2.2.2.2.2.2.2.2.2.2.1])), (a4, .inr (2, [.long z9.2.2.2.2.2.2.2.2.2.2.2.2.2.1, .long z9.2.2.2.2.2.2.2.2.2.2.2.2.2.2.1, .int z9.2.2.2.2.2.2.2.2.2.2.2.2.2.2.2.1])), (a5, .inr (2, [.long z9.2.2.2.2.2.2.2.2.2.2.2.2.2.2.2.2.1, .long z9.2.2.2.2.2.2.2.2.2.2.2.2.2.2.2.2.2.1, .int z9.2.2.2.2.2.2.2.2.2.2.2.2.2.2.2.2.2.2]))] H := hP
    have hD : va_D A [(aV, .inl (cV, 1, .inr (.inl fV))), (aO, .inr (0, [.ref aT, .ref aF, .int cw, .int z9.2.1, .ref a1, .ref a2, .ref a3, .ref a4, .ref a5])), (aT, .inl (cI, 8, .inl z9.2.2.1)), (aF, .inl (cL, 8, .inr (.inl z9.2.2.2.1))), (a1, .inr (1, [.int (b2i z9.2.2.2.2.1), .int z9.2.2.2.2.2.1, .long z9.2.2.2.2.2.2.1])), (a2, .inr (1, [.int (b2i z9.2.2.2.2.2.2.2.1), .int z9.2.2.2.2.2.2.2.2.1, .long z9.2.2.2.2.2.2.2.2.2.1])), (a3, .inr (1, [.int (b2i z9.2.2.2.2.2.2.2.2.2.2.1), .int z9.2.2.2.2.2.2.2.2.2.2.2.1, .long z9.2.2.2.2.2.2.2.2.2.2.2.2.1])), (a4, .inr (2, [.long z9.2.2.2.2.2.2.2.2.2.2.2.2.2.1, .long z9.2.2.2.2.2.2.2.2.2.2.2.2.2.2.1, .int z9.2.2.2.2.2.2.2.2.2.2.2.2.2.2.2.1])), (a5, .inr (2, [.long z9.2.2.2.2.2.2.2.2.2.2.2.2.2.2.2.2.1, .long z9.2.2.2.2.2.2.2.2.2.2.2.2.2.2.2.2.2.1, .int z9.2.2.2.2.2.2.2.2.2.2.2.2.2.2.2.2.2.2]))] := hD
    refine lv_i2l (v := z9.1.toInt64) hx hb d_L_operate_12 rfl ?_
    refine va_last hx hb hK hP hD hS 0 2 rfl rfl in1_0 d_L_operate_13 (fun H locs hP hD hS => ?_)
    have hP : va_P (dC, dI) classes [(aV, .inl (cV, 1, .inr (.inl (vp_updL fV (0 : Int32).toNatClampNeg (z9.1.toInt64))))), (aO, .inr (0, [.ref aT, .ref aF, .int cw, .int z9.2.1, .ref a1, .ref a2, .ref a3, .ref a4, .ref a5])), (aT, .inl (cI, 8, .inl z9.2.2.1)), (aF, .inl (cL, 8, .inr (.inl z9.2.2.2.1))), (a1, .inr (1, [.int (b2i z9.2.2.2.2.1), .int z9.2.2.2.2.2.1, .long z9.2.2.2.2.2.2.1])), (a2, .inr (1, [.int (b2i z9.2.2.2.2.2.2.2.1), .int z9.2.2.2.2.2.2.2.2.1, .long z9.2.2.2.2.2.2.2.2.2.1])), (a3, .inr (1, [.int (b2i z9.2.2.2.2.2.2.2.2.2.2.1), .int z9.2.2.2.2.2.2.2.2.2.2.2.1, .long z9.2.2.2.2.2.2.2.2.2.2.2.2.1])), (a4, .inr (2, [.long z9.2.2.2.2.2.2.2.2.2.2.2.2.2.1, .long z9.2.2.2.2.2.2.2.2.2.2.2.2.2.2.1, .int z9.2.2.2.2.2.2.2.2.2.2.2.2.2.2.2.1])), (a5, .inr (2, [.long z9.2.2.2.2.2.2.2.2.2.2.2.2.2.2.2.2.1, .long z9.2.2.2.2.2.2.2.2.2.2.2.2.2.2.2.2.2.1, .int z9.2.2.2.2.2.2.2.2.2.2.2.2.2.2.2.2.2.2]))] H := hP
    have hD : va_D A [(aV, .inl (cV, 1, .inr (.inl (vp_updL fV (0 : Int32).toNatClampNeg (z9.1.toInt64))))), (aO, .inr (0, [.ref aT, .ref aF, .int cw, .int z9.2.1, .ref a1, .ref a2, .ref a3, .ref a4, .ref a5])), (aT, .inl (cI, 8, .inl z9.2.2.1)), (aF, .inl (cL, 8, .inr (.inl z9.2.2.2.1))), (a1, .inr (1, [.int (b2i z9.2.2.2.2.1), .int z9.2.2.2.2.2.1, .long z9.2.2.2.2.2.2.1])), (a2, .inr (1, [.int (b2i z9.2.2.2.2.2.2.2.1), .int z9.2.2.2.2.2.2.2.2.1, .long z9.2.2.2.2.2.2.2.2.2.1])), (a3, .inr (1, [.int (b2i z9.2.2.2.2.2.2.2.2.2.2.1), .int z9.2.2.2.2.2.2.2.2.2.2.2.1, .long z9.2.2.2.2.2.2.2.2.2.2.2.2.1])), (a4, .inr (2, [.long z9.2.2.2.2.2.2.2.2.2.2.2.2.2.1, .long z9.2.2.2.2.2.2.2.2.2.2.2.2.2.2.1, .int z9.2.2.2.2.2.2.2.2.2.2.2.2.2.2.2.1])), (a5, .inr (2, [.long z9.2.2.2.2.2.2.2.2.2.2.2.2.2.2.2.2.1, .long z9.2.2.2.2.2.2.2.2.2.2.2.2.2.2.2.2.2.1, .int z9.2.2.2.2.2.2.2.2.2.2.2.2.2.2.2.2.2.2]))] := hD
    refine lv_goto (tgt := 25) hx hb d_L_operate_14 (by decide) ?_
    refine lv_iconst (v := 0) hx hb d_L_operate_25 (by decide) ?_
    have hE : g_L_operate cw ts fT fF n1 p1 f1 n2 p2 f2 n3 p3 f3 hi lo ex hi2 lo2 ex2 fV iop ia ib ito = (0, z9.2.1, z9.2.2.1, z9.2.2.2.1, z9.2.2.2.2.1, z9.2.2.2.2.2.1, z9.2.2.2.2.2.2.1, z9.2.2.2.2.2.2.2.1, z9.2.2.2.2.2.2.2.2.1, z9.2.2.2.2.2.2.2.2.2.1, z9.2.2.2.2.2.2.2.2.2.2.1, z9.2.2.2.2.2.2.2.2.2.2.2.1, z9.2.2.2.2.2.2.2.2.2.2.2.2.1, z9.2.2.2.2.2.2.2.2.2.2.2.2.2.1, z9.2.2.2.2.2.2.2.2.2.2.2.2.2.2.1, z9.2.2.2.2.2.2.2.2.2.2.2.2.2.2.2.1, z9.2.2.2.2.2.2.2.2.2.2.2.2.2.2.2.2.1, z9.2.2.2.2.2.2.2.2.2.2.2.2.2.2.2.2.2.1, z9.2.2.2.2.2.2.2.2.2.2.2.2.2.2.2.2.2.2, (vp_updL fV (0 : Int32).toNatClampNeg (z9.1.toInt64))) := by clear hP hD hl hS; subst ez9; unfold g_L_operate; (try dsimp only); rw [if_neg c_9_1, if_neg c_9_2]
    have hP9 : va_P (dC, dI) classes [(aO, .inr (0, [.ref aT, .ref aF, .int cw, .int ((g_L_operate cw ts fT fF n1 p1 f1 n2 p2 f2 n3 p3 f3 hi lo ex hi2 lo2 ex2 fV iop ia ib ito).2.1), .ref a1, .ref a2, .ref a3, .ref a4, .ref a5])), (aT, .inl (cI, 8, .inl ((g_L_operate cw ts fT fF n1 p1 f1 n2 p2 f2 n3 p3 f3 hi lo ex hi2 lo2 ex2 fV iop ia ib ito).2.2.1))), (aF, .inl (cL, 8, .inr (.inl ((g_L_operate cw ts fT fF n1 p1 f1 n2 p2 f2 n3 p3 f3 hi lo ex hi2 lo2 ex2 fV iop ia ib ito).2.2.2.1)))), (a1, .inr (1, [.int (b2i ((g_L_operate cw ts fT fF n1 p1 f1 n2 p2 f2 n3 p3 f3 hi lo ex hi2 lo2 ex2 fV iop ia ib ito).2.2.2.2.1)), .int ((g_L_operate cw ts fT fF n1 p1 f1 n2 p2 f2 n3 p3 f3 hi lo ex hi2 lo2 ex2 fV iop ia ib ito).2.2.2.2.2.1), .long ((g_L_operate cw ts fT fF n1 p1 f1 n2 p2 f2 n3 p3 f3 hi lo ex hi2 lo2 ex2 fV iop ia ib ito).2.2.2.2.2.2.1)])), (a2, .inr (1, [.int (b2i ((g_L_operate cw ts fT fF n1 p1 f1 n2 p2 f2 n3 p3 f3 hi lo ex hi2 lo2 ex2 fV iop ia ib ito).2.2.2.2.2.2.2.1)), .int ((g_L_operate cw ts fT fF n1 p1 f1 n2 p2 f2 n3 p3 f3 hi lo ex hi2 lo2 ex2 fV iop ia ib ito).2.2.2.2.2.2.2.2.1), .long ((g_L_operate cw ts fT fF n1 p1 f1 n2 p2 f2 n3 p3 f3 hi lo ex hi2 lo2 ex2 fV iop ia ib ito).2.2.2.2.2.2.2.2.2.1)])), (a3, .inr (1, [.int (b2i ((g_L_operate cw ts fT fF n1 p1 f1 n2 p2 f2 n3 p3 f3 hi lo ex hi2 lo2 ex2 fV iop ia ib ito).2.2.2.2.2.2.2.2.2.2.1)), .int ((g_L_operate cw ts fT fF n1 p1 f1 n2 p2 f2 n3 p3 f3 hi lo ex hi2 lo2 ex2 fV iop ia ib ito).2.2.2.2.2.2.2.2.2.2.2.1), .long ((g_L_operate cw ts fT fF n1 p1 f1 n2 p2 f2 n3 p3 f3 hi lo ex hi2 lo2 ex2 fV iop ia ib ito).2.2.2.2.2.2.2.2.2.2.2.2.1)])), (a4, .inr (2, [.long ((g_L_operate cw ts fT fF n1 p1 f1 n2 p2 f2 n3 p3 f3 hi lo ex hi2 lo2 ex2 fV iop ia ib ito).2.2.2.2.2.2.2.2.2.2.2.2.2.1), .long ((g_L_operate cw ts fT fF n1 p1 f1 n2 p2 f2 n3 p3 f3 hi lo ex hi2 lo2 ex2 fV iop ia ib ito).2.2.2.2.2.2.2.2.2.2.2.2.2.2.1), .int ((g_L_operate cw ts fT fF n1 p1 f1 n2 p2 f2 n3 p3 f3 hi lo ex hi2 lo2 ex2 fV iop ia ib ito).2.2.2.2.2.2.2.2.2.2.2.2.2.2.2.1)])), (a5, .inr (2, [.long ((g_L_operate cw ts fT fF n1 p1 f1 n2 p2 f2 n3 p3 f3 hi lo ex hi2 lo2 ex2 fV iop ia ib ito).2.2.2.2.2.2.2.2.2.2.2.2.2.2.2.2.1), .long ((g_L_operate cw ts fT fF n1 p1 f1 n2 p2 f2 n3 p3 f3 hi lo ex hi2 lo2 ex2 fV iop ia ib ito).2.2.2.2.2.2.2.2.2.2.2.2.2.2.2.2.2.1), .int ((g_L_operate cw ts fT fF n1 p1 f1 n2 p2 f2 n3 p3 f3 hi lo ex hi2 lo2 ex2 fV iop ia ib ito).2.2.2.2.2.2.2.2.2.2.2.2.2.2.2.2.2.2.1)])), (aV, .inl (cV, 1, .inr (.inl ((g_L_operate cw ts fT fF n1 p1 f1 n2 p2 f2 n3 p3 f3 hi lo ex hi2 lo2 ex2 fV iop ia ib ito).2.2.2.2.2.2.2.2.2.2.2.2.2.2.2.2.2.2.2))))] H := by rw [hE]; exact hP.sub [1, 2, 3, 4, 5, 6, 7, 8, 0] rfl
    have hD9 : va_D A [(aO, .inr (0, [.ref aT, .ref aF, .int cw, .int ((g_L_operate cw ts fT fF n1 p1 f1 n2 p2 f2 n3 p3 f3 hi lo ex hi2 lo2 ex2 fV iop ia ib ito).2.1), .ref a1, .ref a2, .ref a3, .ref a4, .ref a5])), (aT, .inl (cI, 8, .inl ((g_L_operate cw ts fT fF n1 p1 f1 n2 p2 f2 n3 p3 f3 hi lo ex hi2 lo2 ex2 fV iop ia ib ito).2.2.1))), (aF, .inl (cL, 8, .inr (.inl ((g_L_operate cw ts fT fF n1 p1 f1 n2 p2 f2 n3 p3 f3 hi lo ex hi2 lo2 ex2 fV iop ia ib ito).2.2.2.1)))), (a1, .inr (1, [.int (b2i ((g_L_operate cw ts fT fF n1 p1 f1 n2 p2 f2 n3 p3 f3 hi lo ex hi2 lo2 ex2 fV iop ia ib ito).2.2.2.2.1)), .int ((g_L_operate cw ts fT fF n1 p1 f1 n2 p2 f2 n3 p3 f3 hi lo ex hi2 lo2 ex2 fV iop ia ib ito).2.2.2.2.2.1), .long ((g_L_operate cw ts fT fF n1 p1 f1 n2 p2 f2 n3 p3 f3 hi lo ex hi2 lo2 ex2 fV iop ia ib ito).2.2.2.2.2.2.1)])), (a2, .inr (1, [.int (b2i ((g_L_operate cw ts fT fF n1 p1 f1 n2 p2 f2 n3 p3 f3 hi lo ex hi2 lo2 ex2 fV iop ia ib ito).2.2.2.2.2.2.2.1)), .int ((g_L_operate cw ts fT fF n1 p1 f1 n2 p2 f2 n3 p3 f3 hi lo ex hi2 lo2 ex2 fV iop ia ib ito).2.2.2.2.2.2.2.2.1), .long ((g_L_operate cw ts fT fF n1 p1 f1 n2 p2 f2 n3 p3 f3 hi lo ex hi2 lo2 ex2 fV iop ia ib ito).2.2.2.2.2.2.2.2.2.1)])), (a3, .inr (1, [.int (b2i ((g_L_operate cw ts fT fF n1 p1 f1 n2 p2 f2 n3 p3 f3 hi lo ex hi2 lo2 ex2 fV iop ia ib ito).2.2.2.2.2.2.2.2.2.2.1)), .int ((g_L_operate cw ts fT fF n1 p1 f1 n2 p2 f2 n3 p3 f3 hi lo ex hi2 lo2 ex2 fV iop ia ib ito).2.2.2.2.2.2.2.2.2.2.2.1), .long ((g_L_operate cw ts fT fF n1 p1 f1 n2 p2 f2 n3 p3 f3 hi lo ex hi2 lo2 ex2 fV iop ia ib ito).2.2.2.2.2.2.2.2.2.2.2.2.1)])), (a4, .inr (2, [.long ((g_L_operate cw ts fT fF n1 p1 f1 n2 p2 f2 n3 p3 f3 hi lo ex hi2 lo2 ex2 fV iop ia ib ito).2.2.2.2.2.2.2.2.2.2.2.2.2.1), .long ((g_L_operate cw ts fT fF n1 p1 f1 n2 p2 f2 n3 p3 f3 hi lo ex hi2 lo2 ex2 fV iop ia ib ito).2.2.2.2.2.2.2.2.2.2.2.2.2.2.1), .int ((g_L_operate cw ts fT fF n1 p1 f1 n2 p2 f2 n3 p3 f3 hi lo ex hi2 lo2 ex2 fV iop ia ib ito).2.2.2.2.2.2.2.2.2.2.2.2.2.2.2.1)])), (a5, .inr (2, [.long ((g_L_operate cw ts fT fF n1 p1 f1 n2 p2 f2 n3 p3 f3 hi lo ex hi2 lo2 ex2 fV iop ia ib ito).2.2.2.2.2.2.2.2.2.2.2.2.2.2.2.2.1), .long ((g_L_operate cw ts fT fF n1 p1 f1 n2 p2 f2 n3 p3 f3 hi lo ex hi2 lo2 ex2 fV iop ia ib ito).2.2.2.2.2.2.2.2.2.2.2.2.2.2.2.2.2.1), .int ((g_L_operate cw ts fT fF n1 p1 f1 n2 p2 f2 n3 p3 f3 hi lo ex hi2 lo2 ex2 fV iop ia ib ito).2.2.2.2.2.2.2.2.2.2.2.2.2.2.2.2.2.2.1)])), (aV, .inl (cV, 1, .inr (.inl ((g_L_operate cw ts fT fF n1 p1 f1 n2 p2 f2 n3 p3 f3 hi lo ex hi2 lo2 ex2 fV iop ia ib ito).2.2.2.2.2.2.2.2.2.2.2.2.2.2.2.2.2.2.2))))] := by rw [hE]; exact hD.sub [1, 2, 3, 4, 5, 6, 7, 8, 0] (by decide) rfl
    exact W.iret (v := 0) hx hb hr (fun t ht hW => ⟨⟨0, (), rfl, by rw [hE], by rw [ht]; exact hP9, hD9⟩, hS.F ht⟩) hS.2.2 d_L_operate_26
