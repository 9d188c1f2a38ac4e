theorem d_M_isDenormal_0 : decode b_M_isDenormal 0 = .ok (.aload_n 0, 1) := by decide +kernel
theorem d_M_isDenormal_1 : decode b_M_isDenormal 1 = .ok (.getfield 25, 3) := by decide +kernel
theorem d_M_isDenormal_4 : decode b_M_isDenormal 4 = .ok (.iload_n 1, 1) := by decide +kernel
theorem d_M_isDenormal_5 : decode b_M_isDenormal 5 = .ok (.iaload, 1) := by decide +kernel
theorem d_M_isDenormal_6 : decode b_M_isDenormal 6 = .ok (.ifCond .ne 18, 3) := by decide +kernel
theorem d_M_isDenormal_24 : decode b_M_isDenormal 24 = .ok (.iconst 0, 1) := by decide +kernel
theorem d_M_isDenormal_25 : decode b_M_isDenormal 25 = .ok (.ireturn, 1) := by decide +kernel
theorem d_M_isDenormal_9 : decode b_M_isDenormal 9 = .ok (.aload_n 0, 1) := by decide +kernel
theorem d_M_isDenormal_10 : decode b_M_isDenormal 10 = .ok (.getfield 28, 3) := by decide +kernel
theorem d_M_isDenormal_13 : decode b_M_isDenormal 13 = .ok (.iload_n 1, 1) := by decide +kernel
theorem d_M_isDenormal_14 : decode b_M_isDenormal 14 = .ok (.laload, 1) := by decide +kernel
theorem d_M_isDenormal_15 : decode b_M_isDenormal 15 = .ok (.lconst 0, 1) := by decide +kernel
theorem d_M_isDenormal_16 : decode b_M_isDenormal 16 = .ok (.lcmp, 1) := by decide +kernel
theorem d_M_isDenormal_17 : decode b_M_isDenormal 17 = .ok (.ifCond .eq 7, 3) := by decide +kernel
theorem d_M_isDenormal_20 : decode b_M_isDenormal 20 = .ok (.iconst 1, 1) := by decide +kernel
theorem d_M_isDenormal_21 : decode b_M_isDenormal 21 = .ok (.goto 4, 3) := by decide +kernel
set_option maxHeartbeats 4000000 in
set_option maxRecDepth 100000 in
theorem c_M_isDenormal (l : Launch) (dC : Nat → ClassId) (dI : Nat → Nat → Nat) (kP : ClassId) (kQ : ClassId) (bM : Nat) (bP : Nat) (bQ : Nat) (bT : Nat) (bF : Nat) (bN : Nat) (bR : Nat) (sz : Nat) (cd : Int32) (wd : Int32) (al : Int32) (sz1 : Int32) (un : Int32) (mo : Bool) (tl : Int32) (sp : Bool) (tpo : Int32) (fro : Int64) (ly : Bool) (pw : Nat → Int32) (pt : Nat → Int64) (ii : Int32) (hi2 : vp_in ii 2) : Met l y_M_isDenormal w_M_isDenormal ({ frames := 0, cells := 0, slots := 0, locals := 0 }) (cPc (dC, dI) [(kP, .int), (kQ, .long)] [.ref bM, .int ii] [(bM, .inr (3, [.int cd, .int wd, .ref bT, .ref bF, .int al, .ref bN, .ref bP, .ref bQ, .ref bR, .int sz1, .int un, .int (b2i mo), .int tl, .int (b2i sp), .int tpo, .long fro, .int (b2i ly)])), (bP, .inl (kP, 2, .inl pw)), (bQ, .inl (kQ, 2, .inr (.inl pt)))] sz) (va_Qi (fun (r : Int32) (_ : Unit) => r = b2i ((g_M_isDenormal pw pt ii))) (fun _ t => va_P (dC, dI) classes [(bM, .inr (3, [.int cd, .int wd, .ref bT, .ref bF, .int al, .ref bN, .ref bP, .ref bQ, .ref bR, .int sz1, .int un, .int (b2i mo), .int tl, .int (b2i sp), .int tpo, .long fro, .int (b2i ly)])), (bP, .inl (kP, 2, .inl pw)), (bQ, .inl (kQ, 2, .inr (.inl pt)))] t.heap ∧ va_D (va_A [(bM, .inr (3, [.int cd, .int wd, .ref bT, .ref bF, .int al, .ref bN, .ref bP, .ref bQ, .ref bR, .int sz1, .int un, .int (b2i mo), .int tl, .int (b2i sp), .int tpo, .long fro, .int (b2i ly)])), (bP, .inl (kP, 2, .inl pw)), (bQ, .inl (kQ, 2, .inr (.inl pt)))] sz) [(bM, .inr (3, [.int cd, .int wd, .ref bT, .ref bF, .int al, .ref bN, .ref bP, .ref bQ, .ref bR, .int sz1, .int un, .int (b2i mo), .int tl, .int (b2i sp), .int tpo, .long fro, .int (b2i ly)])), (bP, .inl (kP, 2, .inl pw)), (bQ, .inl (kQ, 2, .inr (.inl pt)))]) (va_A [(bM, .inr (3, [.int cd, .int wd, .ref bT, .ref bF, .int al, .ref bN, .ref bP, .ref bQ, .ref bR, .int sz1, .int un, .int (b2i mo), .int tl, .int (b2i sp), .int tpo, .long fro, .int (b2i ly)])), (bP, .inl (kP, 2, .inl pw)), (bQ, .inl (kQ, 2, .inr (.inl pt)))] sz)) 0 0 (va_A [(bM, .inr (3, [.int cd, .int wd, .ref bT, .ref bF, .int al, .ref bN, .ref bP, .ref bQ, .ref bR, .int sz1, .int un, .int (b2i mo), .int tl, .int (b2i sp), .int tpo, .long fro, .int (b2i ly)])), (bP, .inl (kP, 2, .inl pw)), (bQ, .inl (kQ, 2, .inr (.inl pt)))] sz) := by
  refine Met.ofW (cc := b_M_isDenormal) (maxL := 2) (ret := (some .boolean)) (by decide) rfl ?_
  intro p e s m args below meth c s₁ B hml hv
  obtain ⟨rfl, hsz, hP, hK, hD0, hnw⟩ := hv
  have hx := B.exec
  have hb := B.bytes
  have hr := B.returns
  have hts := atoms_spec (ws := w_M_isDenormal) B.pre
  have htA : ∀ w ∈ wAll, w.before _ s = true := fun w h => hts w (List.mem_cons_of_mem _ h)
  have hown : s.vm.findClass R_M = some m.cls := findClass_of_methodNamed B.named
  have hlocks := B.notSynchronized
  subst hsz
  have hD := hD0.self (sz := s.heap.size)
  generalize hAe : va_A [(bM, .inr (3, [.int cd, .int wd, .ref bT, .ref bF, .int al, .ref bN, .ref bP, .ref bQ, .ref bR, .int sz1, .int un, .int (b2i mo), .int tl, .int (b2i sp), .int tpo, .long fro, .int (b2i ly)])), (bP, .inl (kP, 2, .inl pw)), (bQ, .inl (kQ, 2, .inr (.inl pt)))] s.heap.size = A at hD ⊢
  have hA : ∀ q : Nat, s.heap.size ≤ q → A q := fun q h => by rw [← hAe]; exact Or.inr h
  have hS : va_S A s.heap s.heap [] := va_S.rf
  have hP : va_P (dC, dI) classes [(bM, .inr (3, [.int cd, .int wd, .ref bT, .ref bF, .int al, .ref bN, .ref bP, .ref bQ, .ref bR, .int sz1, .int un, .int (b2i mo), .int tl, .int (b2i sp), .int tpo, .long fro, .int (b2i ly)])), (bP, .inl (kP, 2, .inl pw)), (bQ, .inl (kQ, 2, .inr (.inl pt)))] s.heap := hP
  obtain ⟨H, eH⟩ : ∃ z, z = s.heap := ⟨_, rfl⟩
  rw [← eH] at hP
  have hS : va_S A s.heap H [] := by rw [eH]; exact hS
  rw [← eH]
  generalize ([] : List Loc) = locs at hS ⊢
  have hl := lv_entry ([.ref bM, .int ii]) (n := 2) (Nat.le_of_ble_eq_true rfl)
  rw [lg_entry_eq]
  generalize (lg_sl ([.ref bM, .int ii]) ++ List.replicate (2 - (lg_sl ([.ref bM, .int ii])).length) Slot.unset).toArray = ls at hl ⊢
  have hl : lv_has ls 2 [(0, .ref bM), (1, .int ii)] := hl
  refine lv_aload_n hx hb d_M_isDenormal_0 rfl (lv_at hl 0 rfl) ?_
  refine va_get (D := (dC, dI)) (ci := 3) (v := .ref bP) (C := R_M) (T := F_M) (N := 17) hx hb htA in_M hown hK hP 0 rfl rfl 6 (by decide) (htA _ k_255) (fun _ h9 => h9) rfl d_M_isDenormal_1 ?_
  refine lv_iload_n hx hb d_M_isDenormal_4 rfl (lv_at hl 1 rfl) ?_
  refine va_iald hx hb hK hP 1 0 rfl rfl hi2 d_M_isDenormal_5 ?_
  refine lv_if_ne (tgt := 24) hx hb d_M_isDenormal_6 (by decide) (fun c_6 => ?_) (fun c_6 => ?_)
  · skip
    refine lv_iconst (v := 0) hx hb d_M_isDenormal_24 (by decide) ?_
    have hE : g_M_isDenormal pw pt ii = (false) := by clear hP hD hl hS; unfold g_M_isDenormal; (try dsimp only); rw [if_neg c_6]
    have hP9 : va_P (dC, dI) classes [(bM, .inr (3, [.int cd, .int wd, .ref bT, .ref bF, .int al, .ref bN, .ref bP, .ref bQ, .ref bR, .int sz1, .int un, .int (b2i mo), .int tl, .int (b2i sp), .int tpo, .long fro, .int (b2i ly)])), (bP, .inl (kP, 2, .inl pw)), (bQ, .inl (kQ, 2, .inr (.inl pt)))] H := by exact hP.sub [0, 1, 2] rfl
    have hD9 : va_D A [(bM, .inr (3, [.int cd, .int wd, .ref bT, .ref bF, .int al, .ref bN, .ref bP, .ref bQ, .ref bR, .int sz1, .int un, .int (b2i mo), .int tl, .int (b2i sp), .int tpo, .long fro, .int (b2i ly)])), (bP, .inl (kP, 2, .inl pw)), (bQ, .inl (kQ, 2, .inr (.inl pt)))] := by exact hD.sub [0, 1, 2] (by decide) rfl
    exact W.zret (v := 0) hx hb hr (by first | exact nar_b2i _ | rfl) (fun t ht hW => ⟨⟨0, (), rfl, by rw [hE]; rfl, by rw [ht]; exact hP9, hD9⟩, hS.F ht⟩) hS.2.2 d_M_isDenormal_25
  · skip
    refine lv_aload_n hx hb d_M_isDenormal_9 rfl (lv_at hl 0 rfl) ?_
    refine va_get (D := (dC, dI)) (ci := 3) (v := .ref bQ) (C := R_M) (T := F_M) (N := 17) hx hb htA in_M hown hK hP 0 rfl rfl 7 (by decide) (htA _ k_256) (fun _ h9 => h9) rfl d_M_isDenormal_10 ?_
    refine lv_iload_n hx hb d_M_isDenormal_13 rfl (lv_at hl 1 rfl) ?_
    refine va_lald hx hb hK hP 2 1 rfl rfl hi2 d_M_isDenormal_14 ?_
    refine lv_lconst (v := 0) hx hb d_M_isDenormal_15 (by decide) ?_
    refine W.lcmp hx hb d_M_isDenormal_16 ?_
    refine lv_if_eq (tgt := 24) hx hb d_M_isDenormal_17 (by decide) (fun c_17 => ?_) (fun c_17 => ?_)
    · skip
      have c_17 : (pt ii.toNatClampNeg) = 0 := (lg_cmp_eq _ _).mp c_17
      refine lv_iconst (v := 0) hx hb d_M_isDenormal_24 (by decide) ?_
      have hE : g_M_isDenormal pw pt ii = (false) := by clear hP hD hl hS; unfold g_M_isDenormal; (try dsimp only); rw [if_pos c_6, if_pos c_17]
      have hP9 : va_P (dC, dI) classes [(bM, .inr (3, [.int cd, .int wd, .ref bT, .ref bF, .int al, .ref bN, .ref bP, .ref bQ, .ref bR, .int sz1, .int un, .int (b2i mo), .int tl, .int (b2i sp), .int tpo, .long fro, .int (b2i ly)])), (bP, .inl (kP, 2, .inl pw)), (bQ, .inl (kQ, 2, .inr (.inl pt)))] H := by exact hP.sub [0, 1, 2] rfl
      have hD9 : va_D A [(bM, .inr (3, [.int cd, .int wd, .ref bT, .ref bF, .int al, .ref bN, .ref bP, .ref bQ, .ref bR, .int sz1, .int un, .int (b2i mo), .int tl, .int (b2i sp), .int tpo, .long fro, .int (b2i ly)])), (bP, .inl (kP, 2, .inl pw)), (bQ, .inl (kQ, 2, .inr (.inl pt)))] := by exact hD.sub [0, 1, 2] (by decide) rfl
      exact W.zret (v := 0) hx hb hr (by first | exact nar_b2i _ | rfl) (fun t ht hW => ⟨⟨0, (), rfl, by rw [hE]; rfl, by rw [ht]; exact hP9, hD9⟩, hS.F ht⟩) hS.2.2 d_M_isDenormal_25
    · skip
      have c_17 : ¬ (pt ii.toNatClampNeg) = 0 := fun h9 => c_17 ((lg_cmp_eq _ _).mpr h9)
      refine lv_iconst (v := 1) hx hb d_M_isDenormal_20 (by decide) ?_
      refine lv_goto (tgt := 25) hx hb d_M_isDenormal_21 (by decide) ?_
      have hE : g_M_isDenormal pw pt ii = (true) := by clear hP hD hl hS; unfold g_M_isDenormal; (try dsimp only); rw [if_pos c_6, if_neg c_17]
      have hP9 : va_P (dC, dI) classes [(bM, .inr (3, [.int cd, .int wd, .ref bT, .ref bF, .int al, .ref bN, .ref bP, .ref bQ, .ref bR, .int sz1, .int un, .int (b2i mo), .int tl, .int (b2i sp), .int tpo, .long fro, .int (b2i ly)])), (bP, .inl (kP, 2, .inl pw)), (bQ, .inl (kQ, 2, .inr (.inl pt)))] H := by exact hP.sub [0, 1, 2] rfl
      have hD9 : va_D A [(bM, .inr (3, [.int cd, .int wd, .ref bT, .ref bF, .int al, .ref bN, .ref bP, .ref bQ, .ref bR, .int sz1, .int un, .int (b2i mo), .int tl, .int (b2i sp), .int tpo, .long fro, .int (b2i ly)])), (bP, .inl (kP, 2, .inl pw)), (bQ, .inl (kQ, 2, .inr (.inl pt)))] := by exact hD.sub [0, 1, 2] (by decide) rfl
      exact W.zret (v := 1) hx hb hr (by first | exact nar_b2i _ | rfl) (fun t ht hW => ⟨⟨1, (), rfl, by rw [hE]; rfl, by rw [ht]; exact hP9, hD9⟩, hS.F ht⟩) hS.2.2 d_M_isDenormal_25
theorem d_M_isUnnormal_0 : decode b_M_isUnnormal 0 = .ok (.aload_n 0, 1) := by decide +kernel
theorem d_M_isUnnormal_1 : decode b_M_isUnnormal 1 = .ok (.getfield 25, 3) := by decide +kernel
theorem d_M_isUnnormal_4 : decode b_M_isUnnormal 4 = .ok (.iload_n 1, 1) := by decide +kernel
theorem d_M_isUnnormal_5 : decode b_M_isUnnormal 5 = .ok (.iaload, 1) := by decide +kernel
theorem d_M_isUnnormal_6 : decode b_M_isUnnormal 6 = .ok (.ifCond .le 30, 3) := by decide +kernel
theorem d_M_isUnnormal_36 : decode b_M_isUnnormal 36 = .ok (.iconst 0, 1) := by decide +kernel
theorem d_M_isUnnormal_37 : decode b_M_isUnnormal 37 = .ok (.ireturn, 1) := by decide +kernel
theorem d_M_isUnnormal_9 : decode b_M_isUnnormal 9 = .ok (.aload_n 0, 1) := by decide +kernel
theorem d_M_isUnnormal_10 : decode b_M_isUnnormal 10 = .ok (.getfield 25, 3) := by decide +kernel
theorem d_M_isUnnormal_13 : decode b_M_isUnnormal 13 = .ok (.iload_n 1, 1) := by decide +kernel
theorem d_M_isUnnormal_14 : decode b_M_isUnnormal 14 = .ok (.iaload, 1) := by decide +kernel
theorem d_M_isUnnormal_15 : decode b_M_isUnnormal 15 = .ok (.sipush 32767, 3) := by decide +kernel
theorem d_M_isUnnormal_18 : decode b_M_isUnnormal 18 = .ok (.if_icmp .ge 18, 3) := by decide +kernel
theorem d_M_isUnnormal_21 : decode b_M_isUnnormal 21 = .ok (.aload_n 0, 1) := by decide +kernel
theorem d_M_isUnnormal_22 : decode b_M_isUnnormal 22 = .ok (.getfield 28, 3) := by decide +kernel
theorem d_M_isUnnormal_25 : decode b_M_isUnnormal 25 = .ok (.iload_n 1, 1) := by decide +kernel
theorem d_M_isUnnormal_26 : decode b_M_isUnnormal 26 = .ok (.laload, 1) := by decide +kernel
theorem d_M_isUnnormal_27 : decode b_M_isUnnormal 27 = .ok (.lconst 0, 1) := by decide +kernel
theorem d_M_isUnnormal_28 : decode b_M_isUnnormal 28 = .ok (.lcmp, 1) := by decide +kernel
theorem d_M_isUnnormal_29 : decode b_M_isUnnormal 29 = .ok (.ifCond .le 7, 3) := by decide +kernel
theorem d_M_isUnnormal_32 : decode b_M_isUnnormal 32 = .ok (.iconst 1, 1) := by decide +kernel
theorem d_M_isUnnormal_33 : decode b_M_isUnnormal 33 = .ok (.goto 4, 3) := by decide +kernel
set_option maxHeartbeats 4000000 in
set_option maxRecDepth 100000 in
theorem c_M_isUnnormal (l : Launch) (dC : Nat → ClassId) (dI : Nat → Nat → Nat) (kP : ClassId) (kQ : ClassId) (bM : Nat) (bP : Nat) (bQ : Nat) (bT : Nat) (bF : Nat) (bN : Nat) (bR : Nat) (sz : Nat) (cd : Int32) (wd : Int32) (al : Int32) (sz1 : Int32) (un : Int32) (mo : Bool) (tl : Int32) (sp : Bool) (tpo : Int32) (fro : Int64) (ly : Bool) (pw : Nat → Int32) (pt : Nat → Int64) (ii : Int32) (hi2 : vp_in ii 2) : Met l y_M_isUnnormal w_M_isUnnormal ({ frames := 0, cells := 0, slots := 0, locals := 0 }) (cPc (dC, dI) [(kP, .int), (kQ, .long)] [.ref bM, .int ii] [(bM, .inr (3, [.int cd, .int wd, .ref bT, .ref bF, .int al, .ref bN, .ref bP, .ref bQ, .ref bR, .int sz1, .int un, .int (b2i mo), .int tl, .int (b2i sp), .int tpo, .long fro, .int (b2i ly)])), (bP, .inl (kP, 2, .inl pw)), (bQ, .inl (kQ, 2, .inr (.inl pt)))] sz) (va_Qi (fun (r : Int32) (_ : Unit) => r = b2i ((g_M_isUnnormal pw pt ii))) (fun _ t => va_P (dC, dI) classes [(bM, .inr (3, [.int cd, .int wd, .ref bT, .ref bF, .int al, .ref bN, .ref bP, .ref bQ, .ref bR, .int sz1, .int un, .int (b2i mo), .int tl, .int (b2i sp), .int tpo, .long fro, .int (b2i ly)])), (bP, .inl (kP, 2, .inl pw)), (bQ, .inl (kQ, 2, .inr (.inl pt)))] t.heap ∧ va_D (va_A [(bM, .inr (3, [.int cd, .int wd, .ref bT, .ref bF, .int al, .ref bN, .ref bP, .ref bQ, .ref bR, .int sz1, .int un, .int (b2i mo), .int tl, .int (b2i sp), .int tpo, .long fro, .int (b2i ly)])), (bP, .inl (kP, 2, .inl pw)), (bQ, .inl (kQ, 2, .inr (.inl pt)))] sz) [(bM, .inr (3, [.int cd, .int wd, .ref bT, .ref bF, .int al, .ref bN, .ref bP, .ref bQ, .ref bR, .int sz1, .int un, .int (b2i mo), .int tl, .int (b2i sp), .int tpo, .long fro, .int (b2i ly)])), (bP, .inl (kP, 2, .inl pw)), (bQ, .inl (kQ, 2, .inr (.inl pt)))]) (va_A [(bM, .inr (3, [.int cd, .int wd, .ref bT, .ref bF, .int al, .ref bN, .ref bP, .ref bQ, .ref bR, .int sz1, .int un, .int (b2i mo), .int tl, .int (b2i sp), .int tpo, .long fro, .int (b2i ly)])), (bP, .inl (kP, 2, .inl pw)), (bQ, .inl (kQ, 2, .inr (.inl pt)))] sz)) 0 0 (va_A [(bM, .inr (3, [.int cd, .int wd, .ref bT, .ref bF, .int al, .ref bN, .ref bP, .ref bQ, .ref bR, .int sz1, .int un, .int (b2i mo), .int tl, .int (b2i sp), .int tpo, .long fro, .int (b2i ly)])), (bP, .inl (kP, 2, .inl pw)), (bQ, .inl (kQ, 2, .inr (.inl pt)))] sz) := by
  refine Met.ofW (cc := b_M_isUnnormal) (maxL := 2) (ret := (some .boolean)) (by decide) rfl ?_
  intro p e s m args below meth c s₁ B hml hv
  obtain ⟨rfl, hsz, hP, hK, hD0, hnw⟩ := hv
  have hx := B.exec
  have hb := B.bytes
  have hr := B.returns
  have hts := atoms_spec (ws := w_M_isUnnormal) B.pre
  have htA : ∀ w ∈ wAll, w.before _ s = true := fun w h => hts w (List.mem_cons_of_mem _ h)
  have hown : s.vm.findClass R_M = some m.cls := findClass_of_methodNamed B.named
  have hlocks := B.notSynchronized
  subst hsz
  have hD := hD0.self (sz := s.heap.size)
  generalize hAe : va_A [(bM, .inr (3, [.int cd, .int wd, .ref bT, .ref bF, .int al, .ref bN, .ref bP, .ref bQ, .ref bR, .int sz1, .int un, .int (b2i mo), .int tl, .int (b2i sp), .int tpo, .long fro, .int (b2i ly)])), (bP, .inl (kP, 2, .inl pw)), (bQ, .inl (kQ, 2, .inr (.inl pt)))] s.heap.size = A at hD ⊢
  have hA : ∀ q : Nat, s.heap.size ≤ q → A q := fun q h => by rw [← hAe]; exact Or.inr h
  have hS : va_S A s.heap s.heap [] := va_S.rf
  have hP : va_P (dC, dI) classes [(bM, .inr (3, [.int cd, .int wd, .ref bT, .ref bF, .int al, .ref bN, .ref bP, .ref bQ, .ref bR, .int sz1, .int un, .int (b2i mo), .int tl, .int (b2i sp), .int tpo, .long fro, .int (b2i ly)])), (bP, .inl (kP, 2, .inl pw)), (bQ, .inl (kQ, 2, .inr (.inl pt)))] s.heap := hP
  obtain ⟨H, eH⟩ : ∃ z, z = s.heap := ⟨_, rfl⟩
  rw [← eH] at hP
  have hS : va_S A s.heap H [] := by rw [eH]; exact hS
  rw [← eH]
  generalize ([] : List Loc) = locs at hS ⊢
  have hl := lv_entry ([.ref bM, .int ii]) (n := 2) (Nat.le_of_ble_eq_true rfl)
  rw [lg_entry_eq]
  generalize (lg_sl ([.ref bM, .int ii]) ++ List.replicate (2 - (lg_sl ([.ref bM, .int ii])).length) Slot.unset).toArray = ls at hl ⊢
  have hl : lv_has ls 2 [(0, .ref bM), (1, .int ii)] := hl
  refine lv_aload_n hx hb d_M_isUnnormal_0 rfl (lv_at hl 0 rfl) ?_
  refine va_get (D := (dC, dI)) (ci := 3) (v := .ref bP) (C := R_M) (T := F_M) (N := 17) hx hb htA in_M hown hK hP 0 rfl rfl 6 (by decide) (htA _ k_255) (fun _ h9 => h9) rfl d_M_isUnnormal_1 ?_
  refine lv_iload_n hx hb d_M_isUnnormal_4 rfl (lv_at hl 1 rfl) ?_
  refine va_iald hx hb hK hP 1 0 rfl rfl hi2 d_M_isUnnormal_5 ?_
  refine lv_if_le (tgt := 36) hx hb d_M_isUnnormal_6 (by decide) (fun c_6 => ?_) (fun c_6 => ?_)
  · skip
    refine lv_iconst (v := 0) hx hb d_M_isUnnormal_36 (by decide) ?_
    have hE : g_M_isUnnormal pw pt ii = (false) := by clear hP hD hl hS; unfold g_M_isUnnormal; (try dsimp only); rw [if_pos c_6]
    have hP9 : va_P (dC, dI) classes [(bM, .inr (3, [.int cd, .int wd, .ref bT, .ref bF, .int al, .ref bN, .ref bP, .ref bQ, .ref bR, .int sz1, .int un, .int (b2i mo), .int tl, .int (b2i sp), .int tpo, .long fro, .int (b2i ly)])), (bP, .inl (kP, 2, .inl pw)), (bQ, .inl (kQ, 2, .inr (.inl pt)))] H := by exact hP.sub [0, 1, 2] rfl
    have hD9 : va_D A [(bM, .inr (3, [.int cd, .int wd, .ref bT, .ref bF, .int al, .ref bN, .ref bP, .ref bQ, .ref bR, .int sz1, .int un, .int (b2i mo), .int tl, .int (b2i sp), .int tpo, .long fro, .int (b2i ly)])), (bP, .inl (kP, 2, .inl pw)), (bQ, .inl (kQ, 2, .inr (.inl pt)))] := by exact hD.sub [0, 1, 2] (by decide) rfl
    exact W.zret (v := 0) hx hb hr (by first | exact nar_b2i _ | rfl) (fun t ht hW => ⟨⟨0, (), rfl, by rw [hE]; rfl, by rw [ht]; exact hP9, hD9⟩, hS.F ht⟩) hS.2.2 d_M_isUnnormal_37
  · skip
    refine lv_aload_n hx hb d_M_isUnnormal_9 rfl (lv_at hl 0 rfl) ?_
    refine va_get (D := (dC, dI)) (ci := 3) (v := .ref bP) (C := R_M) (T := F_M) (N := 17) hx hb htA in_M hown hK hP 0 rfl rfl 6 (by decide) (htA _ k_255) (fun _ h9 => h9) rfl d_M_isUnnormal_10 ?_
    refine lv_iload_n hx hb d_M_isUnnormal_13 rfl (lv_at hl 1 rfl) ?_
    refine va_iald hx hb hK hP 1 0 rfl rfl hi2 d_M_isUnnormal_14 ?_
    refine lv_sipush (v := 32767) hx hb d_M_isUnnormal_15 (by decide) ?_
    refine lv_icmp_ge (tgt := 36) hx hb d_M_isUnnormal_18 (by decide) (fun c_18 => ?_) (fun c_18 => ?_)
    · skip
      refine lv_iconst (v := 0) hx hb d_M_isUnnormal_36 (by decide) ?_
      have hE : g_M_isUnnormal pw pt ii = (false) := by clear hP hD hl hS; unfold g_M_isUnnormal; (try dsimp only); rw [if_neg c_6, if_pos c_18]
      have hP9 : va_P (dC, dI) classes [(bM, .inr (3, [.int cd, .int wd, .ref bT, .ref bF, .int al, .ref bN, .ref bP, .ref bQ, .ref bR, .int sz1, .int un, .int (b2i mo), .int tl, .int (b2i sp), .int tpo, .long fro, .int (b2i ly)])), (bP, .inl (kP, 2, .inl pw)), (bQ, .inl (kQ, 2, .inr (.inl pt)))] H := by exact hP.sub [0, 1, 2] rfl
      have hD9 : va_D A [(bM, .inr (3, [.int cd, .int wd, .ref bT, .ref bF, .int al, .ref bN, .ref bP, .ref bQ, .ref bR, .int sz1, .int un, .int (b2i mo), .int tl, .int (b2i sp), .int tpo, .long fro, .int (b2i ly)])), (bP, .inl (kP, 2, .inl pw)), (bQ, .inl (kQ, 2, .inr (.inl pt)))] := by exact hD.sub [0, 1, 2] (by decide) rfl
      exact W.zret (v := 0) hx hb hr (by first | exact nar_b2i _ | rfl) (fun t ht hW => ⟨⟨0, (), rfl, by rw [hE]; rfl, by rw [ht]; exact hP9, hD9⟩, hS.F ht⟩) hS.2.2 d_M_isUnnormal_37
    · skip
      refine lv_aload_n hx hb d_M_isUnnormal_21 rfl (lv_at hl 0 rfl) ?_
      refine va_get (D := (dC, dI)) (ci := 3) (v := .ref bQ) (C := R_M) (T := F_M) (N := 17) hx hb htA in_M hown hK hP 0 rfl rfl 7 (by decide) (htA _ k_256) (fun _ h9 => h9) rfl d_M_isUnnormal_22 ?_
      refine lv_iload_n hx hb d_M_isUnnormal_25 rfl (lv_at hl 1 rfl) ?_
      refine va_lald hx hb hK hP 2 1 rfl rfl hi2 d_M_isUnnormal_26 ?_
      refine lv_lconst (v := 0) hx hb d_M_isUnnormal_27 (by decide) ?_
      refine W.lcmp hx hb d_M_isUnnormal_28 ?_
      refine lv_if_le (tgt := 36) hx hb d_M_isUnnormal_29 (by decide) (fun c_29 => ?_) (fun c_29 => ?_)
      · skip
        have c_29 : (pt ii.toNatClampNeg) ≤ 0 := (lg_cmp_le _ _).mp c_29
        refine lv_iconst (v := 0) hx hb d_M_isUnnormal_36 (by decide) ?_
        have hE : g_M_isUnnormal pw pt ii = (false) := by clear hP hD hl hS; unfold g_M_isUnnormal; (try dsimp only); rw [if_neg c_6, if_neg c_18, if_pos c_29]
        have hP9 : va_P (dC, dI) classes [(bM, .inr (3, [.int cd, .int wd, .ref bT, .ref bF, .int al, .ref bN, .ref bP, .ref bQ, .ref bR, .int sz1, .int un, .int (b2i mo), .int tl, .int (b2i sp), .int tpo, .long fro, .int (b2i ly)])), (bP, .inl (kP, 2, .inl pw)), (bQ, .inl (kQ, 2, .inr (.inl pt)))] H := by exact hP.sub [0, 1, 2] rfl
        have hD9 : va_D A [(bM, .inr (3, [.int cd, .int wd, .ref bT, .ref bF, .int al, .ref bN, .ref bP, .ref bQ, .ref bR, .int sz1, .int un, .int (b2i mo), .int tl, .int (b2i sp), .int tpo, .long fro, .int (b2i ly)])), (bP, .inl (kP, 2, .inl pw)), (bQ, .inl (kQ, 2, .inr (.inl pt)))] := by exact hD.sub [0, 1, 2] (by decide) rfl
        exact W.zret (v := 0) hx hb hr (by first | exact nar_b2i _ | rfl) (fun t ht hW => ⟨⟨0, (), rfl, by rw [hE]; rfl, by rw [ht]; exact hP9, hD9⟩, hS.F ht⟩) hS.2.2 d_M_isUnnormal_37
      · skip
        have c_29 : ¬ (pt ii.toNatClampNeg) ≤ 0 := fun h9 => c_29 ((lg_cmp_le _ _).mpr h9)
        refine lv_iconst (v := 1) hx hb d_M_isUnnormal_32 (by decide) ?_
        refine lv_goto (tgt := 37) hx hb d_M_isUnnormal_33 (by decide) ?_
        have hE : g_M_isUnnormal pw pt ii = (true) := by clear hP hD hl hS; unfold g_M_isUnnormal; (try dsimp only); rw [if_neg c_6, if_neg c_18, if_neg c_29]
        have hP9 : va_P (dC, dI) classes [(bM, .inr (3, [.int cd, .int wd, .ref bT, .ref bF, .int al, .ref bN, .ref bP, .ref bQ, .ref bR, .int sz1, .int un, .int (b2i mo), .int tl, .int (b2i sp), .int tpo, .long fro, .int (b2i ly)])), (bP, .inl (kP, 2, .inl pw)), (bQ, .inl (kQ, 2, .inr (.inl pt)))] H := by exact hP.sub [0, 1, 2] rfl
        have hD9 : va_D A [(bM, .inr (3, [.int cd, .int wd, .ref bT, .ref bF, .int al, .ref bN, .ref bP, .ref bQ, .ref bR, .int sz1, .int un, .int (b2i mo), .int tl, .int (b2i sp), .int tpo, .long fro, .int (b2i ly)])), (bP, .inl (kP, 2, .inl pw)), (bQ, .inl (kQ, 2, .inr (.inl pt)))] := by exact hD.sub [0, 1, 2] (by decide) rfl
        exact W.zret (v := 1) hx hb hr (by first | exact nar_b2i _ | rfl) (fun t ht hW => ⟨⟨1, (), rfl, by rw [hE]; rfl, by rw [ht]; exact hP9, hD9⟩, hS.F ht⟩) hS.2.2 d_M_isUnnormal_37
theorem d_M_unitOf_0 : decode b_M_unitOf 0 = .ok (.aload_n 0, 1) := by decide +kernel
theorem d_M_unitOf_1 : decode b_M_unitOf 1 = .ok (.getfield 25, 3) := by decide +kernel
theorem d_M_unitOf_4 : decode b_M_unitOf 4 = .ok (.iload_n 1, 1) := by decide +kernel
theorem d_M_unitOf_5 : decode b_M_unitOf 5 = .ok (.iaload, 1) := by decide +kernel
theorem d_M_unitOf_6 : decode b_M_unitOf 6 = .ok (.ifCond .ne 7, 3) := by decide +kernel
theorem d_M_unitOf_13 : decode b_M_unitOf 13 = .ok (.aload_n 0, 1) := by decide +kernel
theorem d_M_unitOf_14 : decode b_M_unitOf 14 = .ok (.getfield 25, 3) := by decide +kernel
theorem d_M_unitOf_17 : decode b_M_unitOf 17 = .ok (.iload_n 1, 1) := by decide +kernel
theorem d_M_unitOf_18 : decode b_M_unitOf 18 = .ok (.iaload, 1) := by decide +kernel
theorem d_M_unitOf_9 : decode b_M_unitOf 9 = .ok (.iconst 1, 1) := by decide +kernel
theorem d_M_unitOf_10 : decode b_M_unitOf 10 = .ok (.goto 9, 3) := by decide +kernel
theorem d_M_unitOf_19 : decode b_M_unitOf 19 = .ok (.sipush 16446, 3) := by decide +kernel
theorem d_M_unitOf_22 : decode b_M_unitOf 22 = .ok (.isub, 1) := by decide +kernel
theorem d_M_unitOf_23 : decode b_M_unitOf 23 = .ok (.ireturn, 1) := by decide +kernel
set_option maxHeartbeats 4000000 in
set_option maxRecDepth 100000 in
theorem c_M_unitOf (l : Launch) (dC : Nat → ClassId) (dI : Nat → Nat → Nat) (kP : ClassId) (bM : Nat) (bP : Nat) (bT : Nat) (bF : Nat) (bN : Nat) (bQ : Nat) (bR : Nat) (sz : Nat) (cd : Int32) (wd : Int32) (al : Int32) (sz1 : Int32) (un : Int32) (mo : Bool) (tl : Int32) (sp : Bool) (tpo : Int32) (fro : Int64) (ly : Bool) (pw : Nat → Int32) (ii : Int32) (hi2 : vp_in ii 2) : Met l y_M_unitOf w_M_unitOf ({ frames := 0, cells := 0, slots := 0, locals := 0 }) (cPc (dC, dI) [(kP, .int)] [.ref bM, .int ii] [(bM, .inr (3, [.int cd, .int wd, .ref bT, .ref bF, .int al, .ref bN, .ref bP, .ref bQ, .ref bR, .int sz1, .int un, .int (b2i mo), .int tl, .int (b2i sp), .int tpo, .long fro, .int (b2i ly)])), (bP, .inl (kP, 2, .inl pw))] sz) (va_Qi (fun (r : Int32) (_ : Unit) => r = (g_M_unitOf pw ii)) (fun _ t => va_P (dC, dI) classes [(bM, .inr (3, [.int cd, .int wd, .ref bT, .ref bF, .int al, .ref bN, .ref bP, .ref bQ, .ref bR, .int sz1, .int un, .int (b2i mo), .int tl, .int (b2i sp), .int tpo, .long fro, .int (b2i ly)])), (bP, .inl (kP, 2, .inl pw))] t.heap ∧ va_D (va_A [(bM, .inr (3, [.int cd, .int wd, .ref bT, .ref bF, .int al, .ref bN, .ref bP, .ref bQ, .ref bR, .int sz1, .int un, .int (b2i mo), .int tl, .int (b2i sp), .int tpo, .long fro, .int (b2i ly)])), (bP, .inl (kP, 2, .inl pw))] sz) [(bM, .inr (3, [.int cd, .int wd, .ref bT, .ref bF, .int al, .ref bN, .ref bP, .ref bQ, .ref bR, .int sz1, .int un, .int (b2i mo), .int tl, .int (b2i sp), .int tpo, .long fro, .int (b2i ly)])), (bP, .inl (kP, 2, .inl pw))]) (va_A [(bM, .inr (3, [.int cd, .int wd, .ref bT, .ref bF, .int al, .ref bN, .ref bP, .ref bQ, .ref bR, .int sz1, .int un, .int (b2i mo), .int tl, .int (b2i sp), .int tpo, .long fro, .int (b2i ly)])), (bP, .inl (kP, 2, .inl pw))] sz)) 0 0 (va_A [(bM, .inr (3, [.int cd, .int wd, .ref bT, .ref bF, .int al, .ref bN, .ref bP, .ref bQ, .ref bR, .int sz1, .int un, .int (b2i mo), .int tl, .int (b2i sp), .int tpo, .long fro, .int (b2i ly)])), (bP, .inl (kP, 2, .inl pw))] sz) := by
  refine Met.ofW (cc := b_M_unitOf) (maxL := 2) (ret := (some .int)) (by decide) rfl ?_
  intro p e s m args below meth c s₁ B hml hv
  obtain ⟨rfl, hsz, hP, hK, hD0, hnw⟩ := hv
  have hx := B.exec
  have hb := B.bytes
  have hr := B.returns
  have hts := atoms_spec (ws := w_M_unitOf) B.pre
  have htA : ∀ w ∈ wAll, w.before _ s = true := fun w h => hts w (List.mem_cons_of_mem _ h)
  have hown : s.vm.findClass R_M = some m.cls := findClass_of_methodNamed B.named
  have hlocks := B.notSynchronized
  subst hsz
  have hD := hD0.self (sz := s.heap.size)
  generalize hAe : va_A [(bM, .inr (3, [.int cd, .int wd, .ref bT, .ref bF, .int al, .ref bN, .ref bP, .ref bQ, .ref bR, .int sz1, .int un, .int (b2i mo), .int tl, .int (b2i sp), .int tpo, .long fro, .int (b2i ly)])), (bP, .inl (kP, 2, .inl pw))] s.heap.size = A at hD ⊢
  have hA : ∀ q : Nat, s.heap.size ≤ q → A q := fun q h => by rw [← hAe]; exact Or.inr h
  have hS : va_S A s.heap s.heap [] := va_S.rf
  have hP : va_P (dC, dI) classes [(bM, .inr (3, [.int cd, .int wd, .ref bT, .ref bF, .int al, .ref bN, .ref bP, .ref bQ, .ref bR, .int sz1, .int un, .int (b2i mo), .int tl, .int (b2i sp), .int tpo, .long fro, .int (b2i ly)])), (bP, .inl (kP, 2, .inl pw))] s.heap := hP
  obtain ⟨H, eH⟩ : ∃ z, z = s.heap := ⟨_, rfl⟩
  rw [← eH] at hP
  have hS : va_S A s.heap H [] := by rw [eH]; exact hS
  rw [← eH]
  generalize ([] : List Loc) = locs at hS ⊢
  have hl := lv_entry ([.ref bM, .int ii]) (n := 2) (Nat.le_of_ble_eq_true rfl)
  rw [lg_entry_eq]
  generalize (lg_sl ([.ref bM, .int ii]) ++ List.replicate (2 - (lg_sl ([.ref bM, .int ii])).length) Slot.unset).toArray = ls at hl ⊢
  have hl : lv_has ls 2 [(0, .ref bM), (1, .int ii)] := hl
  refine lv_aload_n hx hb d_M_unitOf_0 rfl (lv_at hl 0 rfl) ?_
  refine va_get (D := (dC, dI)) (ci := 3) (v := .ref bP) (C := R_M) (T := F_M) (N := 17) hx hb htA in_M hown hK hP 0 rfl rfl 6 (by decide) (htA _ k_255) (fun _ h9 => h9) rfl d_M_unitOf_1 ?_
  refine lv_iload_n hx hb d_M_unitOf_4 rfl (lv_at hl 1 rfl) ?_
  refine va_iald hx hb hK hP 1 0 rfl rfl hi2 d_M_unitOf_5 ?_
  refine cut_join (X := Int32) 0 0 (fun (x : Int32) (H : Heap) (locs : List Loc) (ls : Array Slot) => (if (pw ii.toNatClampNeg) = 0 then 1 else (pw ii.toNatClampNeg)) = x ∧ va_P (dC, dI) classes [(bM, .inr (3, [.int cd, .int wd, .ref bT, .ref bF, .int al, .ref bN, .ref bP, .ref bQ, .ref bR, .int sz1, .int un, .int (b2i mo), .int tl, .int (b2i sp), .int tpo, .long fro, .int (b2i ly)])), (bP, .inl (kP, 2, .inl pw))] H ∧ va_D A [(bM, .inr (3, [.int cd, .int wd, .ref bT, .ref bF, .int al, .ref bN, .ref bP, .ref bQ, .ref bR, .int sz1, .int un, .int (b2i mo), .int tl, .int (b2i sp), .int tpo, .long fro, .int (b2i ly)])), (bP, .inl (kP, 2, .inl pw))] ∧ va_S A s.heap H locs ∧ lv_has ls 2 [(0, .ref bM), (1, .int ii)]) (fun x ls => F0 m 19 ls [.int x]) ?_ (fun J19 => ?_)
  · skip
    rintro j19_0 H locs ls ⟨ej19_0, hP, hD, hS, hl⟩
    have ej19_0 : (if (pw ii.toNatClampNeg) = 0 then 1 else (pw ii.toNatClampNeg)) = j19_0 := ej19_0
    have hP : va_P (dC, dI) classes [(bM, .inr (3, [.int cd, .int wd, .ref bT, .ref bF, .int al, .ref bN, .ref bP, .ref bQ, .ref bR, .int sz1, .int un, .int (b2i mo), .int tl, .int (b2i sp), .int tpo, .long fro, .int (b2i ly)])), (bP, .inl (kP, 2, .inl pw))] H := hP
    have hD : va_D A [(bM, .inr (3, [.int cd, .int wd, .ref bT, .ref bF, .int al, .ref bN, .ref bP, .ref bQ, .ref bR, .int sz1, .int un, .int (b2i mo), .int tl, .int (b2i sp), .int tpo, .long fro, .int (b2i ly)])), (bP, .inl (kP, 2, .inl pw))] := hD
    have hl : lv_has ls 2 [(0, .ref bM), (1, .int ii)] := hl
    refine lv_sipush (v := 16446) hx hb d_M_unitOf_19 (by decide) ?_
    refine lv_isub hx hb d_M_unitOf_22 ?_
    have hE : g_M_unitOf pw ii = ((j19_0 - 16446)) := by clear hP hD hl hS; subst ej19_0; unfold g_M_unitOf; rfl
    have hP9 : va_P (dC, dI) classes [(bM, .inr (3, [.int cd, .int wd, .ref bT, .ref bF, .int al, .ref bN, .ref bP, .ref bQ, .ref bR, .int sz1, .int un, .int (b2i mo), .int tl, .int (b2i sp), .int tpo, .long fro, .int (b2i ly)])), (bP, .inl (kP, 2, .inl pw))] H := by exact hP.sub [0, 1] rfl
    have hD9 : va_D A [(bM, .inr (3, [.int cd, .int wd, .ref bT, .ref bF, .int al, .ref bN, .ref bP, .ref bQ, .ref bR, .int sz1, .int un, .int (b2i mo), .int tl, .int (b2i sp), .int tpo, .long fro, .int (b2i ly)])), (bP, .inl (kP, 2, .inl pw))] := by exact hD.sub [0, 1] (by decide) rfl
    exact W.iret (v := (j19_0 - 16446)) hx hb hr (fun t ht hW => ⟨⟨(j19_0 - 16446), (), rfl, by rw [hE], by rw [ht]; exact hP9, hD9⟩, hS.F ht⟩) hS.2.2 d_M_unitOf_23
  · skip
    refine lv_if_ne (tgt := 13) hx hb d_M_unitOf_6 (by decide) (fun c_6 => ?_) (fun c_6 => ?_)
    · skip
      refine lv_aload_n hx hb d_M_unitOf_13 rfl (lv_at hl 0 rfl) ?_
      refine va_get (D := (dC, dI)) (ci := 3) (v := .ref bP) (C := R_M) (T := F_M) (N := 17) hx hb htA in_M hown hK hP 0 rfl rfl 6 (by decide) (htA _ k_255) (fun _ h9 => h9) rfl d_M_unitOf_14 ?_
      refine lv_iload_n hx hb d_M_unitOf_17 rfl (lv_at hl 1 rfl) ?_
      refine va_iald hx hb hK hP 1 0 rfl rfl hi2 d_M_unitOf_18 ?_
      exact J19 ((pw ii.toNatClampNeg)) H locs ls ⟨by clear hP hD hl hS; (try dsimp only); rw [if_neg c_6], hP.sub [0, 1] rfl, hD.sub [0, 1] (by decide) rfl, hS, lv_sub hl [0, 1] rfl⟩
    · skip
      refine lv_iconst (v := 1) hx hb d_M_unitOf_9 (by decide) ?_
      refine lv_goto (tgt := 19) hx hb d_M_unitOf_10 (by decide) ?_
      exact J19 (1) H locs ls ⟨by clear hP hD hl hS; (try dsimp only); rw [if_pos c_6], hP.sub [0, 1] rfl, hD.sub [0, 1] (by decide) rfl, hS, lv_sub hl [0, 1] rfl⟩
theorem d_M_set_0 : decode b_M_set 0 = .ok (.aload_n 0, 1) := by decide +kernel
theorem d_M_set_1 : decode b_M_set 1 = .ok (.iload_n 1, 1) := by decide +kernel
theorem d_M_set_2 : decode b_M_set 2 = .ok (.invokestatic 39, 3) := by decide +kernel
theorem d_M_set_5 : decode b_M_set 5 = .ok (.ifCond .eq 7, 3) := by decide +kernel
theorem d_M_set_12 : decode b_M_set 12 = .ok (.iload_n 2, 1) := by decide +kernel
theorem d_M_set_13 : decode b_M_set 13 = .ok (.ifCond .lt 9, 3) := by decide +kernel
theorem d_M_set_22 : decode b_M_set 22 = .ok (.iconst 2, 1) := by decide +kernel
theorem d_M_set_23 : decode b_M_set 23 = .ok (.goto 4, 3) := by decide +kernel
theorem d_M_set_27 : decode b_M_set 27 = .ok (.putfield 35, 3) := by decide +kernel
theorem d_M_set_30 : decode b_M_set 30 = .ok (.aload_n 0, 1) := by decide +kernel
theorem d_M_set_31 : decode b_M_set 31 = .ok (.getfield 35, 3) := by decide +kernel
theorem d_M_set_34 : decode b_M_set 34 = .ok (.ifCond .le 4, 3) := by decide +kernel
theorem d_M_set_37 : decode b_M_set 37 = .ok (.return_, 1) := by decide +kernel
theorem d_M_set_16 : decode b_M_set 16 = .ok (.iload_n 2, 1) := by decide +kernel
theorem d_M_set_17 : decode b_M_set 17 = .ok (.ldc 38, 2) := by decide +kernel
theorem d_M_set_19 : decode b_M_set 19 = .ok (.if_icmp .le 7, 3) := by decide +kernel
theorem d_M_set_26 : decode b_M_set 26 = .ok (.iconst 0, 1) := by decide +kernel
theorem d_M_set_38 : decode b_M_set 38 = .ok (.aload_n 0, 1) := by decide +kernel
theorem d_M_set_39 : decode b_M_set 39 = .ok (.getfield 13, 3) := by decide +kernel
theorem d_M_set_42 : decode b_M_set 42 = .ok (.iload_n 1, 1) := by decide +kernel
theorem d_M_set_43 : decode b_M_set 43 = .ok (.iload_n 2, 1) := by decide +kernel
theorem d_M_set_44 : decode b_M_set 44 = .ok (.iastore, 1) := by decide +kernel
theorem d_M_set_45 : decode b_M_set 45 = .ok (.aload_n 0, 1) := by decide +kernel
theorem d_M_set_46 : decode b_M_set 46 = .ok (.getfield 17, 3) := by decide +kernel
theorem d_M_set_49 : decode b_M_set 49 = .ok (.iload_n 1, 1) := by decide +kernel
theorem d_M_set_50 : decode b_M_set 50 = .ok (.iload_n 3, 1) := by decide +kernel
theorem d_M_set_51 : decode b_M_set 51 = .ok (.i2l, 1) := by decide +kernel
theorem d_M_set_52 : decode b_M_set 52 = .ok (.bipush 32, 2) := by decide +kernel
theorem d_M_set_54 : decode b_M_set 54 = .ok (.lshl, 1) := by decide +kernel
theorem d_M_set_55 : decode b_M_set 55 = .ok (.iload 4, 2) := by decide +kernel
theorem d_M_set_57 : decode b_M_set 57 = .ok (.i2l, 1) := by decide +kernel
theorem d_M_set_58 : decode b_M_set 58 = .ok (.ldc2_w 43, 3) := by decide +kernel
theorem d_M_set_61 : decode b_M_set 61 = .ok (.land, 1) := by decide +kernel
theorem d_M_set_62 : decode b_M_set 62 = .ok (.lor, 1) := by decide +kernel
theorem d_M_set_63 : decode b_M_set 63 = .ok (.lastore, 1) := by decide +kernel
theorem d_M_set_64 : decode b_M_set 64 = .ok (.return_, 1) := by decide +kernel
theorem d_M_set_8 : decode b_M_set 8 = .ok (.iconst 1, 1) := by decide +kernel
theorem d_M_set_9 : decode b_M_set 9 = .ok (.goto 18, 3) := by decide +kernel
set_option maxHeartbeats 4000000 in
set_option maxRecDepth 100000 in
theorem c_M_set (l : Launch) (dC : Nat → ClassId) (dI : Nat → Nat → Nat) (kT : ClassId) (kF : ClassId) (bM : Nat) (bT : Nat) (bF : Nat) (bN : Nat) (bP : Nat) (bQ : Nat) (bR : Nat) (sz : Nat) (cd : Int32) (wd : Int32) (al : Int32) (sz1 : Int32) (un : Int32) (mo : Bool) (tl : Int32) (sp : Bool) (tpo : Int32) (fro : Int64) (ly : Bool) (mT : Nat → Int32) (mF : Nat → Int64) (ir : Int32) (itp : Int32) (ihg : Int32) (ilw : Int32) : Met l y_M_set w_M_set ({ frames := 1, cells := 0, slots := 0, locals := 20 }) (cPc (dC, dI) [(kT, .int), (kF, .long)] [.ref bM, .int ir, .int itp, .int ihg, .int ilw] [(bM, .inr (3, [.int cd, .int wd, .ref bT, .ref bF, .int al, .ref bN, .ref bP, .ref bQ, .ref bR, .int sz1, .int un, .int (b2i mo), .int tl, .int (b2i sp), .int tpo, .long fro, .int (b2i ly)])), (bT, .inl (kT, 8, .inl mT)), (bF, .inl (kF, 8, .inr (.inl mF)))] sz) (va_Qv (fun (_ : Unit) => True) (fun _ t => va_P (dC, dI) classes [(bM, .inr (3, [.int ((g_M_set mT mF ir itp ihg ilw).1), .int wd, .ref bT, .ref bF, .int al, .ref bN, .ref bP, .ref bQ, .ref bR, .int sz1, .int un, .int (b2i mo), .int tl, .int (b2i sp), .int tpo, .long fro, .int (b2i ly)])), (bT, .inl (kT, 8, .inl ((g_M_set mT mF ir itp ihg ilw).2.1))), (bF, .inl (kF, 8, .inr (.inl ((g_M_set mT mF ir itp ihg ilw).2.2))))] t.heap ∧ va_D (va_A [(bM, .inr (3, [.int cd, .int wd, .ref bT, .ref bF, .int al, .ref bN, .ref bP, .ref bQ, .ref bR, .int sz1, .int un, .int (b2i mo), .int tl, .int (b2i sp), .int tpo, .long fro, .int (b2i ly)])), (bT, .inl (kT, 8, .inl mT)), (bF, .inl (kF, 8, .inr (.inl mF)))] sz) [(bM, .inr (3, [.int ((g_M_set mT mF ir itp ihg ilw).1), .int wd, .ref bT, .ref bF, .int al, .ref bN, .ref bP, .ref bQ, .ref bR, .int sz1, .int un, .int (b2i mo), .int tl, .int (b2i sp), .int tpo, .long fro, .int (b2i ly)])), (bT, .inl (kT, 8, .inl ((g_M_set mT mF ir itp ihg ilw).2.1))), (bF, .inl (kF, 8, .inr (.inl ((g_M_set mT mF ir itp ihg ilw).2.2))))]) (va_A [(bM, .inr (3, [.int cd, .int wd, .ref bT, .ref bF, .int al, .ref bN, .ref bP, .ref bQ, .ref bR, .int sz1, .int un, .int (b2i mo), .int tl, .int (b2i sp), .int tpo, .long fro, .int (b2i ly)])), (bT, .inl (kT, 8, .inl mT)), (bF, .inl (kF, 8, .inr (.inl mF)))] sz)) 0 0 (va_A [(bM, .inr (3, [.int cd, .int wd, .ref bT, .ref bF, .int al, .ref bN, .ref bP, .ref bQ, .ref bR, .int sz1, .int un, .int (b2i mo), .int tl, .int (b2i sp), .int tpo, .long fro, .int (b2i ly)])), (bT, .inl (kT, 8, .inl mT)), (bF, .inl (kF, 8, .inr (.inl mF)))] sz) := by
  refine Met.ofW (cc := b_M_set) (maxL := 5) (ret := none) (by decide) rfl ?_
  intro p e s m args below meth c s₁ B hml hv
  obtain ⟨rfl, hsz, hP, hK, hD0, hnw⟩ := hv
  have hx := B.exec
  have hb := B.bytes
  have hr := B.returns
  have hts := atoms_spec (ws := w_M_set) B.pre
  have htA : ∀ w ∈ wAll, w.before _ s = true := fun w h => hts w (List.mem_cons_of_mem _ h)
  have hown : s.vm.findClass R_M = some m.cls := findClass_of_methodNamed B.named
  have hlocks := B.notSynchronized
  subst hsz
  have hD := hD0.self (sz := s.heap.size)
  generalize hAe : va_A [(bM, .inr (3, [.int cd, .int wd, .ref bT, .ref bF, .int al, .ref bN, .ref bP, .ref bQ, .ref bR, .int sz1, .int un, .int (b2i mo), .int tl, .int (b2i sp), .int tpo, .long fro, .int (b2i ly)])), (bT, .inl (kT, 8, .inl mT)), (bF, .inl (kF, 8, .inr (.inl mF)))] s.heap.size = A at hD ⊢
  have hA : ∀ q : Nat, s.heap.size ≤ q → A q := fun q h => by rw [← hAe]; exact Or.inr h
  have hS : va_S A s.heap s.heap [] := va_S.rf
  have hP : va_P (dC, dI) classes [(bM, .inr (3, [.int cd, .int wd, .ref bT, .ref bF, .int al, .ref bN, .ref bP, .ref bQ, .ref bR, .int sz1, .int un, .int (b2i mo), .int tl, .int (b2i sp), .int tpo, .long fro, .int (b2i ly)])), (bT, .inl (kT, 8, .inl mT)), (bF, .inl (kF, 8, .inr (.inl mF)))] s.heap := hP
  obtain ⟨H, eH⟩ : ∃ z, z = s.heap := ⟨_, rfl⟩
  rw [← eH] at hP
  have hS : va_S A s.heap H [] := by rw [eH]; exact hS
  rw [← eH]
  generalize ([] : List Loc) = locs at hS ⊢
  have hl := lv_entry ([.ref bM, .int ir, .int itp, .int ihg, .int ilw]) (n := 5) (Nat.le_of_ble_eq_true rfl)
  rw [lg_entry_eq]
  generalize (lg_sl ([.ref bM, .int ir, .int itp, .int ihg, .int ilw]) ++ List.replicate (5 - (lg_sl ([.ref bM, .int ir, .int itp, .int ihg, .int ilw])).length) Slot.unset).toArray = ls at hl ⊢
  have hl : lv_has ls 5 [(0, .ref bM), (1, .int ir), (2, .int itp), (3, .int ihg), (4, .int ilw)] := hl
  refine lv_aload_n hx hb d_M_set_0 rfl (lv_at hl 0 rfl) ?_
  refine lv_iload_n hx hb d_M_set_1 rfl (lv_at hl 1 rfl) ?_
  have hPc := hP.sub (ws' := []) [] rfl
  have hDc := hD.sub (ws' := []) [] (by decide) rfl
  have hKc := hK.sub (tys' := []) [] rfl
  have hFc := va_free (wc := []) hD hS hA [] rfl
  refine cc_i (va_runS (As := [.int ir]) (rest := [.ref bM]) ⟨hx, hb, hml, hown, htA⟩ (c_M_none l dC dI H.size ir) (va_cwS 1 htA (gi_S k_264 k_265 k_263 (gi_code k_237)) rfl rfl rfl (by decide +kernel) ⟨Nat.le_of_ble_eq_true rfl, Nat.le_of_ble_eq_true rfl⟩) (pre_S hnw hPc hKc hDc) rfl rfl hl.1 rfl (lv_room (Nat.le_of_ble_eq_true rfl)) d_M_set_2 ⟨Nat.le_of_ble_eq_true rfl, Nat.le_of_ble_eq_true rfl⟩) hS hFc hP hD [] [0, 1, 2] (wr := [(bM, .inr (3, [.int cd, .int wd, .ref bT, .ref bF, .int al, .ref bN, .ref bP, .ref bQ, .ref bR, .int sz1, .int un, .int (b2i mo), .int tl, .int (b2i sp), .int tpo, .long fro, .int (b2i ly)])), (bT, .inl (kT, 8, .inl mT)), (bF, .inl (kF, 8, .inr (.inl mF)))]) rfl rfl (by decide) (by decide) (fun H locs hP hD hS => ?_)
  have hP : va_P (dC, dI) classes [(bM, .inr (3, [.int cd, .int wd, .ref bT, .ref bF, .int al, .ref bN, .ref bP, .ref bQ, .ref bR, .int sz1, .int un, .int (b2i mo), .int tl, .int (b2i sp), .int tpo, .long fro, .int (b2i ly)])), (bT, .inl (kT, 8, .inl mT)), (bF, .inl (kF, 8, .inr (.inl mF)))] H := hP
  have hD : va_D A [(bM, .inr (3, [.int cd, .int wd, .ref bT, .ref bF, .int al, .ref bN, .ref bP, .ref bQ, .ref bR, .int sz1, .int un, .int (b2i mo), .int tl, .int (b2i sp), .int tpo, .long fro, .int (b2i ly)])), (bT, .inl (kT, 8, .inl mT)), (bF, .inl (kF, 8, .inr (.inl mF)))] := hD
  refine lv_if_eq (tgt := 12) hx hb d_M_set_5 (by decide) (fun c_5 => ?_) (fun c_5 => ?_)
  · skip
    have c_5 : ¬ (g_M_none ir) = true := b2i_z c_5
    refine lv_iload_n hx hb d_M_set_12 rfl (lv_at hl 2 rfl) ?_
    refine lv_if_lt (tgt := 22) hx hb d_M_set_13 (by decide) (fun c_13 => ?_) (fun c_13 => ?_)
    · skip
      refine lv_iconst (v := 2) hx hb d_M_set_22 (by decide) ?_
      refine lv_goto (tgt := 27) hx hb d_M_set_23 (by decide) ?_
      refine va_put (D := (dC, dI)) (ci := 3) (v := .int 2) (ty := .int) (C := R_M) (T := F_M) (N := 17) hx hb htA in_M t_M t_M_ok n_M hown hK hP hD hS 0 rfl rfl 0 (by decide) (htA _ k_239) (fun _ h9 => h9) rfl (by decide +kernel) rfl rfl (Nat.le_of_ble_eq_true rfl) d_M_set_27 (fun H locs hP hD hS => ?_)
      have hP : va_P (dC, dI) classes [(bM, .inr (3, [.int 2, .int wd, .ref bT, .ref bF, .int al, .ref bN, .ref bP, .ref bQ, .ref bR, .int sz1, .int un, .int (b2i mo), .int tl, .int (b2i sp), .int tpo, .long fro, .int (b2i ly)])), (bT, .inl (kT, 8, .inl mT)), (bF, .inl (kF, 8, .inr (.inl mF)))] H := hP
      have hD : va_D A [(bM, .inr (3, [.int 2, .int wd, .ref bT, .ref bF, .int al, .ref bN, .ref bP, .ref bQ, .ref bR, .int sz1, .int un, .int (b2i mo), .int tl, .int (b2i sp), .int tpo, .long fro, .int (b2i ly)])), (bT, .inl (kT, 8, .inl mT)), (bF, .inl (kF, 8, .inr (.inl mF)))] := hD
      refine lv_aload_n hx hb d_M_set_30 rfl (lv_at hl 0 rfl) ?_
      refine va_get (D := (dC, dI)) (ci := 3) (v := .int 2) (C := R_M) (T := F_M) (N := 17) hx hb htA in_M hown hK hP 0 rfl rfl 0 (by decide) (htA _ k_239) (fun _ h9 => h9) rfl d_M_set_31 ?_
      refine lv_if_le (tgt := 38) hx hb d_M_set_34 (by decide) (fun c_34 => absurd c_34 (by decide)) (fun _ => ?_)
      have hE : g_M_set mT mF ir itp ihg ilw = (2, mT, mF) := by clear hP hD hl hS; unfold g_M_set; (try dsimp only); rw [if_neg c_5, if_pos c_13]
      have hP9 : va_P (dC, dI) classes [(bM, .inr (3, [.int ((g_M_set mT mF ir itp ihg ilw).1), .int wd, .ref bT, .ref bF, .int al, .ref bN, .ref bP, .ref bQ, .ref bR, .int sz1, .int un, .int (b2i mo), .int tl, .int (b2i sp), .int tpo, .long fro, .int (b2i ly)])), (bT, .inl (kT, 8, .inl ((g_M_set mT mF ir itp ihg ilw).2.1))), (bF, .inl (kF, 8, .inr (.inl ((g_M_set mT mF ir itp ihg ilw).2.2))))] H := by rw [hE]; exact hP.sub [0, 1, 2] rfl
      have hD9 : va_D A [(bM, .inr (3, [.int ((g_M_set mT mF ir itp ihg ilw).1), .int wd, .ref bT, .ref bF, .int al, .ref bN, .ref bP, .ref bQ, .ref bR, .int sz1, .int un, .int (b2i mo), .int tl, .int (b2i sp), .int tpo, .long fro, .int (b2i ly)])), (bT, .inl (kT, 8, .inl ((g_M_set mT mF ir itp ihg ilw).2.1))), (bF, .inl (kF, 8, .inr (.inl ((g_M_set mT mF ir itp ihg ilw).2.2))))] := by rw [hE]; exact hD.sub [0, 1, 2] (by decide) rfl
      exact W.vret hx hb hr (fun t ht hW => ⟨⟨(), rfl, trivial, by rw [ht]; exact hP9, hD9⟩, hS.F ht⟩) hS.2.2 d_M_set_37
    · skip
      refine lv_iload_n hx hb d_M_set_16 rfl (lv_at hl 2 rfl) ?_
      refine lv_ldc (v := 65535) hx hb hown (htA _ k_246) d_M_set_17 ?_
      refine lv_icmp_le (tgt := 26) hx hb d_M_set_19 (by decide) (fun c_19 => ?_) (fun c_19 => ?_)
      · skip
        refine lv_iconst (v := 0) hx hb d_M_set_26 (by decide) ?_
        refine va_put (D := (dC, dI)) (ci := 3) (v := .int 0) (ty := .int) (C := R_M) (T := F_M) (N := 17) hx hb htA in_M t_M t_M_ok n_M hown hK hP hD hS 0 rfl rfl 0 (by decide) (htA _ k_239) (fun _ h9 => h9) rfl (by decide +kernel) rfl rfl (Nat.le_of_ble_eq_true rfl) d_M_set_27 (fun H locs hP hD hS => ?_)
        have hP : va_P (dC, dI) classes [(bM, .inr (3, [.int 0, .int wd, .ref bT, .ref bF, .int al, .ref bN, .ref bP, .ref bQ, .ref bR, .int sz1, .int un, .int (b2i mo), .int tl, .int (b2i sp), .int tpo, .long fro, .int (b2i ly)])), (bT, .inl (kT, 8, .inl mT)), (bF, .inl (kF, 8, .inr (.inl mF)))] H := hP
        have hD : va_D A [(bM, .inr (3, [.int 0, .int wd, .ref bT, .ref bF, .int al, .ref bN, .ref bP, .ref bQ, .ref bR, .int sz1, .int un, .int (b2i mo), .int tl, .int (b2i sp), .int tpo, .long fro, .int (b2i ly)])), (bT, .inl (kT, 8, .inl mT)), (bF, .inl (kF, 8, .inr (.inl mF)))] := hD
        refine lv_aload_n hx hb d_M_set_30 rfl (lv_at hl 0 rfl) ?_
        refine va_get (D := (dC, dI)) (ci := 3) (v := .int 0) (C := R_M) (T := F_M) (N := 17) hx hb htA in_M hown hK hP 0 rfl rfl 0 (by decide) (htA _ k_239) (fun _ h9 => h9) rfl d_M_set_31 ?_
        refine lv_if_le (tgt := 38) hx hb d_M_set_34 (by decide) (fun _ => ?_) (fun c_34 => absurd c_34 (by decide))
        refine lv_aload_n hx hb d_M_set_38 rfl (lv_at hl 0 rfl) ?_
        refine va_get (D := (dC, dI)) (ci := 3) (v := .ref bT) (C := R_M) (T := F_M) (N := 17) hx hb htA in_M hown hK hP 0 rfl rfl 2 (by decide) (htA _ k_266) (fun _ h9 => h9) rfl d_M_set_39 ?_
        refine lv_iload_n hx hb d_M_set_42 rfl (lv_at hl 1 rfl) ?_
        refine lv_iload_n hx hb d_M_set_43 rfl (lv_at hl 2 rfl) ?_
        refine va_iast hx hb hK hP hD hS 1 0 rfl rfl (M_reg c_5) d_M_set_44 (fun H locs hP hD hS => ?_)
        have hP : va_P (dC, dI) classes [(bM, .inr (3, [.int 0, .int wd, .ref bT, .ref bF, .int al, .ref bN, .ref bP, .ref bQ, .ref bR, .int sz1, .int un, .int (b2i mo), .int tl, .int (b2i sp), .int tpo, .long fro, .int (b2i ly)])), (bT, .inl (kT, 8, .inl (upd mT ir.toNatClampNeg itp))), (bF, .inl (kF, 8, .inr (.inl mF)))] H := hP
        have hD : va_D A [(bM, .inr (3, [.int 0, .int wd, .ref bT, .ref bF, .int al, .ref bN, .ref bP, .ref bQ, .ref bR, .int sz1, .int un, .int (b2i mo), .int tl, .int (b2i sp), .int tpo, .long fro, .int (b2i ly)])), (bT, .inl (kT, 8, .inl (upd mT ir.toNatClampNeg itp))), (bF, .inl (kF, 8, .inr (.inl mF)))] := hD
        refine lv_aload_n hx hb d_M_set_45 rfl (lv_at hl 0 rfl) ?_
        refine va_get (D := (dC, dI)) (ci := 3) (v := .ref bF) (C := R_M) (T := F_M) (N := 17) hx hb htA in_M hown hK hP 0 rfl rfl 3 (by decide) (htA _ k_267) (fun _ h9 => h9) rfl d_M_set_46 ?_
        refine lv_iload_n hx hb d_M_set_49 rfl (lv_at hl 1 rfl) ?_
        refine lv_iload_n hx hb d_M_set_50 rfl (lv_at hl 3 rfl) ?_
        refine lv_i2l (v := ihg.toInt64) hx hb d_M_set_51 rfl ?_
        refine lv_bipush (v := 32) hx hb d_M_set_52 (by decide) ?_
        refine lv_lshl (v := (sL (ihg.toInt64) 32)) hx hb d_M_set_54 rfl ?_
        refine lv_iload hx hb d_M_set_55 (lv_at hl 4 rfl) ?_
        refine lv_i2l (v := ilw.toInt64) hx hb d_M_set_57 rfl ?_
        refine lv_ldc2 (v := 4294967295) hx hb hown (htA _ k_268) d_M_set_58 ?_
        refine lv_land hx hb d_M_set_61 ?_
        refine lv_lor hx hb d_M_set_62 ?_
        refine va_last hx hb hK hP hD hS 2 1 rfl rfl (M_reg c_5) d_M_set_63 (fun H locs hP hD hS => ?_)
        have hP : va_P (dC, dI) classes [(bM, .inr (3, [.int 0, .int wd, .ref bT, .ref bF, .int al, .ref bN, .ref bP, .ref bQ, .ref bR, .int sz1, .int un, .int (b2i mo), .int tl, .int (b2i sp), .int tpo, .long fro, .int (b2i ly)])), (bT, .inl (kT, 8, .inl (upd mT ir.toNatClampNeg itp))), (bF, .inl (kF, 8, .inr (.inl (vp_updL mF ir.toNatClampNeg ((sL (ihg.toInt64) 32) ||| ((ilw.toInt64) &&& 4294967295))))))] H := hP
        have hD : va_D A [(bM, .inr (3, [.int 0, .int wd, .ref bT, .ref bF, .int al, .ref bN, .ref bP, .ref bQ, .ref bR, .int sz1, .int un, .int (b2i mo), .int tl, .int (b2i sp), .int tpo, .long fro, .int (b2i ly)])), (bT, .inl (kT, 8, .inl (upd mT ir.toNatClampNeg itp))), (bF, .inl (kF, 8, .inr (.inl (vp_updL mF ir.toNatClampNeg ((sL (ihg.toInt64) 32) ||| ((ilw.toInt64) &&& 4294967295))))))] := hD
        have hE : g_M_set mT mF ir itp ihg ilw = (0, (upd mT ir.toNatClampNeg itp), (vp_updL mF ir.toNatClampNeg ((sL (ihg.toInt64) 32) ||| ((ilw.toInt64) &&& 4294967295)))) := by clear hP hD hl hS; unfold g_M_set; (try dsimp only); rw [if_neg c_5, if_neg c_13, if_pos c_19]
        have hP9 : va_P (dC, dI) classes [(bM, .inr (3, [.int ((g_M_set mT mF ir itp ihg ilw).1), .int wd, .ref bT, .ref bF, .int al, .ref bN, .ref bP, .ref bQ, .ref bR, .int sz1, .int un, .int (b2i mo), .int tl, .int (b2i sp), .int tpo, .long fro, .int (b2i ly)])), (bT, .inl (kT, 8, .inl ((g_M_set mT mF ir itp ihg ilw).2.1))), (bF, .inl (kF, 8, .inr (.inl ((g_M_set mT mF ir itp ihg ilw).2.2))))] H := by rw [hE]; exact hP.sub [0, 1, 2] rfl
        have hD9 : va_D A [(bM, .inr (3, [.int ((g_M_set mT mF ir itp ihg ilw).1), .int wd, .ref bT, .ref bF, .int al, .ref bN, .ref bP, .ref bQ, .ref bR, .int sz1, .int un, .int (b2i mo), .int tl, .int (b2i sp), .int tpo, .long fro, .int (b2i ly)])), (bT, .inl (kT, 8, .inl ((g_M_set mT mF ir itp ihg ilw).2.1))), (bF, .inl (kF, 8, .inr (.inl ((g_M_set mT mF ir itp ihg ilw).2.2))))] := by rw [hE]; exact hD.sub [0, 1, 2] (by decide) rfl
        exact W.vret hx hb hr (fun t ht hW => ⟨⟨(), rfl, trivial, by rw [ht]; exact hP9, hD9⟩, hS.F ht⟩) hS.2.2 d_M_set_64
      · skip
        refine lv_iconst (v := 2) hx hb d_M_set_22 (by decide) ?_
        refine lv_goto (tgt := 27) hx hb d_M_set_23 (by decide) ?_
        refine va_put (D := (dC, dI)) (ci := 3) (v := .int 2) (ty := .int) (C := R_M) (T := F_M) (N := 17) hx hb htA in_M t_M t_M_ok n_M hown hK hP hD hS 0 rfl rfl 0 (by decide) (htA _ k_239) (fun _ h9 => h9) rfl (by decide +kernel) rfl rfl (Nat.le_of_ble_eq_true rfl) d_M_set_27 (fun H locs hP hD hS => ?_)
        have hP : va_P (dC, dI) classes [(bM, .inr (3, [.int 2, .int wd, .ref bT, .ref bF, .int al, .ref bN, .ref bP, .ref bQ, .ref bR, .int sz1, .int un, .int (b2i mo), .int tl, .int (b2i sp), .int tpo, .long fro, .int (b2i ly)])), (bT, .inl (kT, 8, .inl mT)), (bF, .inl (kF, 8, .inr (.inl mF)))] H := hP
        have hD : va_D A [(bM, .inr (3, [.int 2, .int wd, .ref bT, .ref bF, .int al, .ref bN, .ref bP, .ref bQ, .ref bR, .int sz1, .int un, .int (b2i mo), .int tl, .int (b2i sp), .int tpo, .long fro, .int (b2i ly)])), (bT, .inl (kT, 8, .inl mT)), (bF, .inl (kF, 8, .inr (.inl mF)))] := hD
        refine lv_aload_n hx hb d_M_set_30 rfl (lv_at hl 0 rfl) ?_
        refine va_get (D := (dC, dI)) (ci := 3) (v := .int 2) (C := R_M) (T := F_M) (N := 17) hx hb htA in_M hown hK hP 0 rfl rfl 0 (by decide) (htA _ k_239) (fun _ h9 => h9) rfl d_M_set_31 ?_
        refine lv_if_le (tgt := 38) hx hb d_M_set_34 (by decide) (fun c_34 => absurd c_34 (by decide)) (fun _ => ?_)
        have hE : g_M_set mT mF ir itp ihg ilw = (2, mT, mF) := by clear hP hD hl hS; unfold g_M_set; (try dsimp only); rw [if_neg c_5, if_neg c_13, if_neg c_19]
        have hP9 : va_P (dC, dI) classes [(bM, .inr (3, [.int ((g_M_set mT mF ir itp ihg ilw).1), .int wd, .ref bT, .ref bF, .int al, .ref bN, .ref bP, .ref bQ, .ref bR, .int sz1, .int un, .int (b2i mo), .int tl, .int (b2i sp), .int tpo, .long fro, .int (b2i ly)])), (bT, .inl (kT, 8, .inl ((g_M_set mT mF ir itp ihg ilw).2.1))), (bF, .inl (kF, 8, .inr (.inl ((g_M_set mT mF ir itp ihg ilw).2.2))))] H := by rw [hE]; exact hP.sub [0, 1, 2] rfl
        have hD9 : va_D A [(bM, .inr (3, [.int ((g_M_set mT mF ir itp ihg ilw).1), .int wd, .ref bT, .ref bF, .int al, .ref bN, .ref bP, .ref bQ, .ref bR, .int sz1, .int un, .int (b2i mo), .int tl, .int (b2i sp), .int tpo, .long fro, .int (b2i ly)])), (bT, .inl (kT, 8, .inl ((g_M_set mT mF ir itp ihg ilw).2.1))), (bF, .inl (kF, 8, .inr (.inl ((g_M_set mT mF ir itp ihg ilw).2.2))))] := by rw [hE]; exact hD.sub [0, 1, 2] (by decide) rfl
        exact W.vret hx hb hr (fun t ht hW => ⟨⟨(), rfl, trivial, by rw [ht]; exact hP9, hD9⟩, hS.F ht⟩) hS.2.2 d_M_set_37
  · skip
    have c_5 : (g_M_none ir) = true := b2i_nz c_5
    refine lv_iconst (v := 1) hx hb d_M_set_8 (by decide) ?_
    refine lv_goto (tgt := 27) hx hb d_M_set_9 (by decide) ?_
    refine va_put (D := (dC, dI)) (ci := 3) (v := .int 1) (ty := .int) (C := R_M) (T := F_M) (N := 17) hx hb htA in_M t_M t_M_ok n_M hown hK hP hD hS 0 rfl rfl 0 (by decide) (htA _ k_239) (fun _ h9 => h9) rfl (by decide +kernel) rfl rfl (Nat.le_of_ble_eq_true rfl) d_M_set_27 (fun H locs hP hD hS => ?_)
    have hP : va_P (dC, dI) classes [(bM, .inr (3, [.int 1, .int wd, .ref bT, .ref bF, .int al, .ref bN, .ref bP, .ref bQ, .ref bR, .int sz1, .int un, .int (b2i mo), .int tl, .int (b2i sp), .int tpo, .long fro, .int (b2i ly)])), (bT, .inl (kT, 8, .inl mT)), (bF, .inl (kF, 8, .inr (.inl mF)))] H := hP
    have hD : va_D A [(bM, .inr (3, [.int 1, .int wd, .ref bT, .ref bF, .int al, .ref bN, .ref bP, .ref bQ, .ref bR, .int sz1, .int un, .int (b2i mo), .int tl, .int (b2i sp), .int tpo, .long fro, .int (b2i ly)])), (bT, .inl (kT, 8, .inl mT)), (bF, .inl (kF, 8, .inr (.inl mF)))] := hD
    refine lv_aload_n hx hb d_M_set_30 rfl (lv_at hl 0 rfl) ?_
    refine va_get (D := (dC, dI)) (ci := 3) (v := .int 1) (C := R_M) (T := F_M) (N := 17) hx hb htA in_M hown hK hP 0 rfl rfl 0 (by decide) (htA _ k_239) (fun _ h9 => h9) rfl d_M_set_31 ?_
    refine lv_if_le (tgt := 38) hx hb d_M_set_34 (by decide) (fun c_34 => absurd c_34 (by decide)) (fun _ => ?_)
    have hE : g_M_set mT mF ir itp ihg ilw = (1, mT, mF) := by clear hP hD hl hS; unfold g_M_set; (try dsimp only); rw [if_pos c_5]
    have hP9 : va_P (dC, dI) classes [(bM, .inr (3, [.int ((g_M_set mT mF ir itp ihg ilw).1), .int wd, .ref bT, .ref bF, .int al, .ref bN, .ref bP, .ref bQ, .ref bR, .int sz1, .int un, .int (b2i mo), .int tl, .int (b2i sp), .int tpo, .long fro, .int (b2i ly)])), (bT, .inl (kT, 8, .inl ((g_M_set mT mF ir itp ihg ilw).2.1))), (bF, .inl (kF, 8, .inr (.inl ((g_M_set mT mF ir itp ihg ilw).2.2))))] H := by rw [hE]; exact hP.sub [0, 1, 2] rfl
    have hD9 : va_D A [(bM, .inr (3, [.int ((g_M_set mT mF ir itp ihg ilw).1), .int wd, .ref bT, .ref bF, .int al, .ref bN, .ref bP, .ref bQ, .ref bR, .int sz1, .int un, .int (b2i mo), .int tl, .int (b2i sp), .int tpo, .long fro, .int (b2i ly)])), (bT, .inl (kT, 8, .inl ((g_M_set mT mF ir itp ihg ilw).2.1))), (bF, .inl (kF, 8, .inr (.inl ((g_M_set mT mF ir itp ihg ilw).2.2))))] := by rw [hE]; exact hD.sub [0, 1, 2] (by decide) rfl
    exact W.vret hx hb hr (fun t ht hW => ⟨⟨(), rfl, trivial, by rw [ht]; exact hP9, hD9⟩, hS.F ht⟩) hS.2.2 d_M_set_37
theorem d_M_part_0 : decode b_M_part 0 = .ok (.aload_n 0, 1) := by decide +kernel
theorem d_M_part_1 : decode b_M_part 1 = .ok (.iload_n 1, 1) := by decide +kernel
theorem d_M_part_2 : decode b_M_part 2 = .ok (.invokestatic 39, 3) := by decide +kernel
theorem d_M_part_5 : decode b_M_part 5 = .ok (.ifCond .eq 7, 3) := by decide +kernel
theorem d_M_part_12 : decode b_M_part 12 = .ok (.iload_n 2, 1) := by decide +kernel
theorem d_M_part_13 : decode b_M_part 13 = .ok (.ifCond .lt 8, 3) := by decide +kernel
theorem d_M_part_21 : decode b_M_part 21 = .ok (.iconst 2, 1) := by decide +kernel
theorem d_M_part_22 : decode b_M_part 22 = .ok (.goto 4, 3) := by decide +kernel
theorem d_M_part_26 : decode b_M_part 26 = .ok (.putfield 35, 3) := by decide +kernel
theorem d_M_part_29 : decode b_M_part 29 = .ok (.aload_n 0, 1) := by decide +kernel
theorem d_M_part_30 : decode b_M_part 30 = .ok (.getfield 35, 3) := by decide +kernel
theorem d_M_part_33 : decode b_M_part 33 = .ok (.ifCond .le 5, 3) := by decide +kernel
theorem d_M_part_36 : decode b_M_part 36 = .ok (.iconst 0, 1) := by decide +kernel
theorem d_M_part_37 : decode b_M_part 37 = .ok (.ireturn, 1) := by decide +kernel
theorem d_M_part_16 : decode b_M_part 16 = .ok (.iload_n 2, 1) := by decide +kernel
theorem d_M_part_17 : decode b_M_part 17 = .ok (.iconst 2, 1) := by decide +kernel
theorem d_M_part_18 : decode b_M_part 18 = .ok (.if_icmp .le 7, 3) := by decide +kernel
theorem d_M_part_25 : decode b_M_part 25 = .ok (.iconst 0, 1) := by decide +kernel
theorem d_M_part_38 : decode b_M_part 38 = .ok (.iload_n 2, 1) := by decide +kernel
theorem d_M_part_39 : decode b_M_part 39 = .ok (.ifCond .ne 12, 3) := by decide +kernel
theorem d_M_part_51 : decode b_M_part 51 = .ok (.iload_n 2, 1) := by decide +kernel
theorem d_M_part_52 : decode b_M_part 52 = .ok (.iconst 1, 1) := by decide +kernel
theorem d_M_part_53 : decode b_M_part 53 = .ok (.if_icmp .ne 16, 3) := by decide +kernel
theorem d_M_part_69 : decode b_M_part 69 = .ok (.aload_n 0, 1) := by decide +kernel
theorem d_M_part_70 : decode b_M_part 70 = .ok (.getfield 17, 3) := by decide +kernel
theorem d_M_part_73 : decode b_M_part 73 = .ok (.iload_n 1, 1) := by decide +kernel
theorem d_M_part_74 : decode b_M_part 74 = .ok (.laload, 1) := by decide +kernel
theorem d_M_part_75 : decode b_M_part 75 = .ok (.l2i, 1) := by decide +kernel
theorem d_M_part_76 : decode b_M_part 76 = .ok (.ireturn, 1) := by decide +kernel
theorem d_M_part_56 : decode b_M_part 56 = .ok (.aload_n 0, 1) := by decide +kernel
theorem d_M_part_57 : decode b_M_part 57 = .ok (.getfield 17, 3) := by decide +kernel
theorem d_M_part_60 : decode b_M_part 60 = .ok (.iload_n 1, 1) := by decide +kernel
theorem d_M_part_61 : decode b_M_part 61 = .ok (.laload, 1) := by decide +kernel
theorem d_M_part_62 : decode b_M_part 62 = .ok (.bipush 32, 2) := by decide +kernel
theorem d_M_part_64 : decode b_M_part 64 = .ok (.lshr, 1) := by decide +kernel
theorem d_M_part_65 : decode b_M_part 65 = .ok (.l2i, 1) := by decide +kernel
theorem d_M_part_66 : decode b_M_part 66 = .ok (.goto 10, 3) := by decide +kernel
theorem d_M_part_42 : decode b_M_part 42 = .ok (.aload_n 0, 1) := by decide +kernel
theorem d_M_part_43 : decode b_M_part 43 = .ok (.getfield 13, 3) := by decide +kernel
theorem d_M_part_46 : decode b_M_part 46 = .ok (.iload_n 1, 1) := by decide +kernel
theorem d_M_part_47 : decode b_M_part 47 = .ok (.iaload, 1) := by decide +kernel
theorem d_M_part_48 : decode b_M_part 48 = .ok (.goto 28, 3) := by decide +kernel
theorem d_M_part_8 : decode b_M_part 8 = .ok (.iconst 1, 1) := by decide +kernel
theorem d_M_part_9 : decode b_M_part 9 = .ok (.goto 17, 3) := by decide +kernel
set_option maxHeartbeats 4000000 in
set_option maxRecDepth 100000 in
theorem c_M_part (l : Launch) (dC : Nat → ClassId) (dI : Nat → Nat → Nat) (kT : ClassId) (kF : ClassId) (bM : Nat) (bT : Nat) (bF : Nat) (bN : Nat) (bP : Nat) (bQ : Nat) (bR : Nat) (sz : Nat) (cd : Int32) (wd : Int32) (al : Int32) (sz1 : Int32) (un : Int32) (mo : Bool) (tl : Int32) (sp : Bool) (tpo : Int32) (fro : Int64) (ly : Bool) (mT : Nat → Int32) (mF : Nat → Int64) (ir : Int32) (iwh : Int32) : Met l y_M_part w_M_part ({ frames := 1, cells := 0, slots := 0, locals := 20 }) (cPc (dC, dI) [(kT, .int), (kF, .long)] [.ref bM, .int ir, .int iwh] [(bM, .inr (3, [.int cd, .int wd, .ref bT, .ref bF, .int al, .ref bN, .ref bP, .ref bQ, .ref bR, .int sz1, .int un, .int (b2i mo), .int tl, .int (b2i sp), .int tpo, .long fro, .int (b2i ly)])), (bT, .inl (kT, 8, .inl mT)), (bF, .inl (kF, 8, .inr (.inl mF)))] sz) (va_Qi (fun (r : Int32) (_ : Unit) => r = (g_M_part mT mF ir iwh).1) (fun _ t => va_P (dC, dI) classes [(bM, .inr (3, [.int ((g_M_part mT mF ir iwh).2), .int wd, .ref bT, .ref bF, .int al, .ref bN, .ref bP, .ref bQ, .ref bR, .int sz1, .int un, .int (b2i mo), .int tl, .int (b2i sp), .int tpo, .long fro, .int (b2i ly)])), (bT, .inl (kT, 8, .inl mT)), (bF, .inl (kF, 8, .inr (.inl mF)))] t.heap ∧ va_D (va_A [(bM, .inr (3, [.int cd, .int wd, .ref bT, .ref bF, .int al, .ref bN, .ref bP, .ref bQ, .ref bR, .int sz1, .int un, .int (b2i mo), .int tl, .int (b2i sp), .int tpo, .long fro, .int (b2i ly)])), (bT, .inl (kT, 8, .inl mT)), (bF, .inl (kF, 8, .inr (.inl mF)))] sz) [(bM, .inr (3, [.int ((g_M_part mT mF ir iwh).2), .int wd, .ref bT, .ref bF, .int al, .ref bN, .ref bP, .ref bQ, .ref bR, .int sz1, .int un, .int (b2i mo), .int tl, .int (b2i sp), .int tpo, .long fro, .int (b2i ly)])), (bT, .inl (kT, 8, .inl mT)), (bF, .inl (kF, 8, .inr (.inl mF)))]) (va_A [(bM, .inr (3, [.int cd, .int wd, .ref bT, .ref bF, .int al, .ref bN, .ref bP, .ref bQ, .ref bR, .int sz1, .int un, .int (b2i mo), .int tl, .int (b2i sp), .int tpo, .long fro, .int (b2i ly)])), (bT, .inl (kT, 8, .inl mT)), (bF, .inl (kF, 8, .inr (.inl mF)))] sz)) 0 0 (va_A [(bM, .inr (3, [.int cd, .int wd, .ref bT, .ref bF, .int al, .ref bN, .ref bP, .ref bQ, .ref bR, .int sz1, .int un, .int (b2i mo), .int tl, .int (b2i sp), .int tpo, .long fro, .int (b2i ly)])), (bT, .inl (kT, 8, .inl mT)), (bF, .inl (kF, 8, .inr (.inl mF)))] sz) := by
  refine Met.ofW (cc := b_M_part) (maxL := 3) (ret := (some .int)) (by decide) rfl ?_
  intro p e s m args below meth c s₁ B hml hv
  obtain ⟨rfl, hsz, hP, hK, hD0, hnw⟩ := hv
  have hx := B.exec
  have hb := B.bytes
  have hr := B.returns
  have hts := atoms_spec (ws := w_M_part) B.pre
  have htA : ∀ w ∈ wAll, w.before _ s = true := fun w h => hts w (List.mem_cons_of_mem _ h)
  have hown : s.vm.findClass R_M = some m.cls := findClass_of_methodNamed B.named
  have hlocks := B.notSynchronized
  subst hsz
  have hD := hD0.self (sz := s.heap.size)
  generalize hAe : va_A [(bM, .inr (3, [.int cd, .int wd, .ref bT, .ref bF, .int al, .ref bN, .ref bP, .ref bQ, .ref bR, .int sz1, .int un, .int (b2i mo), .int tl, .int (b2i sp), .int tpo, .long fro, .int (b2i ly)])), (bT, .inl (kT, 8, .inl mT)), (bF, .inl (kF, 8, .inr (.inl mF)))] s.heap.size = A at hD ⊢
  have hA : ∀ q : Nat, s.heap.size ≤ q → A q := fun q h => by rw [← hAe]; exact Or.inr h
  have hS : va_S A s.heap s.heap [] := va_S.rf
  have hP : va_P (dC, dI) classes [(bM, .inr (3, [.int cd, .int wd, .ref bT, .ref bF, .int al, .ref bN, .ref bP, .ref bQ, .ref bR, .int sz1, .int un, .int (b2i mo), .int tl, .int (b2i sp), .int tpo, .long fro, .int (b2i ly)])), (bT, .inl (kT, 8, .inl mT)), (bF, .inl (kF, 8, .inr (.inl mF)))] s.heap := hP
  obtain ⟨H, eH⟩ : ∃ z, z = s.heap := ⟨_, rfl⟩
  rw [← eH] at hP
  have hS : va_S A s.heap H [] := by rw [eH]; exact hS
  rw [← eH]
  generalize ([] : List Loc) = locs at hS ⊢
  have hl := lv_entry ([.ref bM, .int ir, .int iwh]) (n := 3) (Nat.le_of_ble_eq_true rfl)
  rw [lg_entry_eq]
  generalize (lg_sl ([.ref bM, .int ir, .int iwh]) ++ List.replicate (3 - (lg_sl ([.ref bM, .int ir, .int iwh])).length) Slot.unset).toArray = ls at hl ⊢
  have hl : lv_has ls 3 [(0, .ref bM), (1, .int ir), (2, .int iwh)] := hl
  refine lv_aload_n hx hb d_M_part_0 rfl (lv_at hl 0 rfl) ?_
  refine lv_iload_n hx hb d_M_part_1 rfl (lv_at hl 1 rfl) ?_
  have hPc := hP.sub (ws' := []) [] rfl
  have hDc := hD.sub (ws' := []) [] (by decide) rfl
  have hKc := hK.sub (tys' := []) [] rfl
  have hFc := va_free (wc := []) hD hS hA [] rfl
  refine cc_i (va_runS (As := [.int ir]) (rest := [.ref bM]) ⟨hx, hb, hml, hown, htA⟩ (c_M_none l dC dI H.size ir) (va_cwS 1 htA (gi_S k_264 k_265 k_263 (gi_code k_237)) rfl rfl rfl (by decide +kernel) ⟨Nat.le_of_ble_eq_true rfl, Nat.le_of_ble_eq_true rfl⟩) (pre_S hnw hPc hKc hDc) rfl rfl hl.1 rfl (lv_room (Nat.le_of_ble_eq_true rfl)) d_M_part_2 ⟨Nat.le_of_ble_eq_true rfl, Nat.le_of_ble_eq_true rfl⟩) hS hFc hP hD [] [0, 1, 2] (wr := [(bM, .inr (3, [.int cd, .int wd, .ref bT, .ref bF, .int al, .ref bN, .ref bP, .ref bQ, .ref bR, .int sz1, .int un, .int (b2i mo), .int tl, .int (b2i sp), .int tpo, .long fro, .int (b2i ly)])), (bT, .inl (kT, 8, .inl mT)), (bF, .inl (kF, 8, .inr (.inl mF)))]) rfl rfl (by decide) (by decide) (fun H locs hP hD hS => ?_)
  have hP : va_P (dC, dI) classes [(bM, .inr (3, [.int cd, .int wd, .ref bT, .ref bF, .int al, .ref bN, .ref bP, .ref bQ, .ref bR, .int sz1, .int un, .int (b2i mo), .int tl, .int (b2i sp), .int tpo, .long fro, .int (b2i ly)])), (bT, .inl (kT, 8, .inl mT)), (bF, .inl (kF, 8, .inr (.inl mF)))] H := hP
  have hD : va_D A [(bM, .inr (3, [.int cd, .int wd, .ref bT, .ref bF, .int al, .ref bN, .ref bP, .ref bQ, .ref bR, .int sz1, .int un, .int (b2i mo), .int tl, .int (b2i sp), .int tpo, .long fro, .int (b2i ly)])), (bT, .inl (kT, 8, .inl mT)), (bF, .inl (kF, 8, .inr (.inl mF)))] := hD
  refine lv_if_eq (tgt := 12) hx hb d_M_part_5 (by decide) (fun c_5 => ?_) (fun c_5 => ?_)
  · skip
    have c_5 : ¬ (g_M_none ir) = true := b2i_z c_5
    refine lv_iload_n hx hb d_M_part_12 rfl (lv_at hl 2 rfl) ?_
    refine lv_if_lt (tgt := 21) hx hb d_M_part_13 (by decide) (fun c_13 => ?_) (fun c_13 => ?_)
    · skip
      refine lv_iconst (v := 2) hx hb d_M_part_21 (by decide) ?_
      refine lv_goto (tgt := 26) hx hb d_M_part_22 (by decide) ?_
      refine va_put (D := (dC, dI)) (ci := 3) (v := .int 2) (ty := .int) (C := R_M) (T := F_M) (N := 17) hx hb htA in_M t_M t_M_ok n_M hown hK hP hD hS 0 rfl rfl 0 (by decide) (htA _ k_239) (fun _ h9 => h9) rfl (by decide +kernel) rfl rfl (Nat.le_of_ble_eq_true rfl) d_M_part_26 (fun H locs hP hD hS => ?_)
      have hP : va_P (dC, dI) classes [(bM, .inr (3, [.int 2, .int wd, .ref bT, .ref bF, .int al, .ref bN, .ref bP, .ref bQ, .ref bR, .int sz1, .int un, .int (b2i mo), .int tl, .int (b2i sp), .int tpo, .long fro, .int (b2i ly)])), (bT, .inl (kT, 8, .inl mT)), (bF, .inl (kF, 8, .inr (.inl mF)))] H := hP
      have hD : va_D A [(bM, .inr (3, [.int 2, .int wd, .ref bT, .ref bF, .int al, .ref bN, .ref bP, .ref bQ, .ref bR, .int sz1, .int un, .int (b2i mo), .int tl, .int (b2i sp), .int tpo, .long fro, .int (b2i ly)])), (bT, .inl (kT, 8, .inl mT)), (bF, .inl (kF, 8, .inr (.inl mF)))] := hD
      refine lv_aload_n hx hb d_M_part_29 rfl (lv_at hl 0 rfl) ?_
      refine va_get (D := (dC, dI)) (ci := 3) (v := .int 2) (C := R_M) (T := F_M) (N := 17) hx hb htA in_M hown hK hP 0 rfl rfl 0 (by decide) (htA _ k_239) (fun _ h9 => h9) rfl d_M_part_30 ?_
      refine lv_if_le (tgt := 38) hx hb d_M_part_33 (by decide) (fun c_33 => absurd c_33 (by decide)) (fun _ => ?_)
      refine lv_iconst (v := 0) hx hb d_M_part_36 (by decide) ?_
      have hE : g_M_part mT mF ir iwh = (0, 2) := by clear hP hD hl hS; unfold g_M_part; (try dsimp only); rw [if_neg c_5, if_pos c_13]
      have hP9 : va_P (dC, dI) classes [(bM, .inr (3, [.int ((g_M_part mT mF ir iwh).2), .int wd, .ref bT, .ref bF, .int al, .ref bN, .ref bP, .ref bQ, .ref bR, .int sz1, .int un, .int (b2i mo), .int tl, .int (b2i sp), .int tpo, .long fro, .int (b2i ly)])), (bT, .inl (kT, 8, .inl mT)), (bF, .inl (kF, 8, .inr (.inl mF)))] H := by rw [hE]; exact hP.sub [0, 1, 2] rfl
      have hD9 : va_D A [(bM, .inr (3, [.int ((g_M_part mT mF ir iwh).2), .int wd, .ref bT, .ref bF, .int al, .ref bN, .ref bP, .ref bQ, .ref bR, .int sz1, .int un, .int (b2i mo), .int tl, .int (b2i sp), .int tpo, .long fro, .int (b2i ly)])), (bT, .inl (kT, 8, .inl mT)), (bF, .inl (kF, 8, .inr (.inl mF)))] := by rw [hE]; exact hD.sub [0, 1, 2] (by decide) rfl
      exact W.iret (v := 0) hx hb hr (fun t ht hW => ⟨⟨0, (), rfl, by rw [hE], by rw [ht]; exact hP9, hD9⟩, hS.F ht⟩) hS.2.2 d_M_part_37
    · skip
      refine lv_iload_n hx hb d_M_part_16 rfl (lv_at hl 2 rfl) ?_
      refine lv_iconst (v := 2) hx hb d_M_part_17 (by decide) ?_
      refine lv_icmp_le (tgt := 25) hx hb d_M_part_18 (by decide) (fun c_18 => ?_) (fun c_18 => ?_)
      · skip
        refine lv_iconst (v := 0) hx hb d_M_part_25 (by decide) ?_
        refine va_put (D := (dC, dI)) (ci := 3) (v := .int 0) (ty := .int) (C := R_M) (T := F_M) (N := 17) hx hb htA in_M t_M t_M_ok n_M hown hK hP hD hS 0 rfl rfl 0 (by decide) (htA _ k_239) (fun _ h9 => h9) rfl (by decide +kernel) rfl rfl (Nat.le_of_ble_eq_true rfl) d_M_part_26 (fun H locs hP hD hS => ?_)
        have hP : va_P (dC, dI) classes [(bM, .inr (3, [.int 0, .int wd, .ref bT, .ref bF, .int al, .ref bN, .ref bP, .ref bQ, .ref bR, .int sz1, .int un, .int (b2i mo), .int tl, .int (b2i sp), .int tpo, .long fro, .int (b2i ly)])), (bT, .inl (kT, 8, .inl mT)), (bF, .inl (kF, 8, .inr (.inl mF)))] H := hP
        have hD : va_D A [(bM, .inr (3, [.int 0, .int wd, .ref bT, .ref bF, .int al, .ref bN, .ref bP, .ref bQ, .ref bR, .int sz1, .int un, .int (b2i mo), .int tl, .int (b2i sp), .int tpo, .long fro, .int (b2i ly)])), (bT, .inl (kT, 8, .inl mT)), (bF, .inl (kF, 8, .inr (.inl mF)))] := hD
        refine lv_aload_n hx hb d_M_part_29 rfl (lv_at hl 0 rfl) ?_
        refine va_get (D := (dC, dI)) (ci := 3) (v := .int 0) (C := R_M) (T := F_M) (N := 17) hx hb htA in_M hown hK hP 0 rfl rfl 0 (by decide) (htA _ k_239) (fun _ h9 => h9) rfl d_M_part_30 ?_
        refine lv_if_le (tgt := 38) hx hb d_M_part_33 (by decide) (fun _ => ?_) (fun c_33 => absurd c_33 (by decide))
        refine lv_iload_n hx hb d_M_part_38 rfl (lv_at hl 2 rfl) ?_
        refine lv_if_ne (tgt := 51) hx hb d_M_part_39 (by decide) (fun c_39 => ?_) (fun c_39 => ?_)
        · skip
          refine lv_iload_n hx hb d_M_part_51 rfl (lv_at hl 2 rfl) ?_
          refine lv_iconst (v := 1) hx hb d_M_part_52 (by decide) ?_
          refine lv_icmp_ne (tgt := 69) hx hb d_M_part_53 (by decide) (fun c_53 => ?_) (fun c_53 => ?_)
          · skip
            refine lv_aload_n hx hb d_M_part_69 rfl (lv_at hl 0 rfl) ?_
            refine va_get (D := (dC, dI)) (ci := 3) (v := .ref bF) (C := R_M) (T := F_M) (N := 17) hx hb htA in_M hown hK hP 0 rfl rfl 3 (by decide) (htA _ k_267) (fun _ h9 => h9) rfl d_M_part_70 ?_
            refine lv_iload_n hx hb d_M_part_73 rfl (lv_at hl 1 rfl) ?_
            refine va_lald hx hb hK hP 2 1 rfl rfl (M_reg c_5) d_M_part_74 ?_
            refine lv_l2i (v := (mF ir.toNatClampNeg).toInt32) hx hb d_M_part_75 rfl ?_
            have hE : g_M_part mT mF ir iwh = (((mF ir.toNatClampNeg).toInt32), 0) := by clear hP hD hl hS; unfold g_M_part; (try dsimp only); rw [if_neg c_5, if_neg c_13, if_pos c_18, if_neg c_39, if_neg c_53]
            have hP9 : va_P (dC, dI) classes [(bM, .inr (3, [.int ((g_M_part mT mF ir iwh).2), .int wd, .ref bT, .ref bF, .int al, .ref bN, .ref bP, .ref bQ, .ref bR, .int sz1, .int un, .int (b2i mo), .int tl, .int (b2i sp), .int tpo, .long fro, .int (b2i ly)])), (bT, .inl (kT, 8, .inl mT)), (bF, .inl (kF, 8, .inr (.inl mF)))] H := by rw [hE]; exact hP.sub [0, 1, 2] rfl
            have hD9 : va_D A [(bM, .inr (3, [.int ((g_M_part mT mF ir iwh).2), .int wd, .ref bT, .ref bF, .int al, .ref bN, .ref bP, .ref bQ, .ref bR, .int sz1, .int un, .int (b2i mo), .int tl, .int (b2i sp), .int tpo, .long fro, .int (b2i ly)])), (bT, .inl (kT, 8, .inl mT)), (bF, .inl (kF, 8, .inr (.inl mF)))] := by rw [hE]; exact hD.sub [0, 1, 2] (by decide) rfl
            exact W.iret (v := ((mF ir.toNatClampNeg).toInt32)) hx hb hr (fun t ht hW => ⟨⟨((mF ir.toNatClampNeg).toInt32), (), rfl, by rw [hE], by rw [ht]; exact hP9, hD9⟩, hS.F ht⟩) hS.2.2 d_M_part_76
          · skip
            refine lv_aload_n hx hb d_M_part_56 rfl (lv_at hl 0 rfl) ?_
            refine va_get (D := (dC, dI)) (ci := 3) (v := .ref bF) (C := R_M) (T := F_M) (N := 17) hx hb htA in_M hown hK hP 0 rfl rfl 3 (by decide) (htA _ k_267) (fun _ h9 => h9) rfl d_M_part_57 ?_
            refine lv_iload_n hx hb d_M_part_60 rfl (lv_at hl 1 rfl) ?_
            refine va_lald hx hb hK hP 2 1 rfl rfl (M_reg c_5) d_M_part_61 ?_
            refine lv_bipush (v := 32) hx hb d_M_part_62 (by decide) ?_
            refine lv_lshr (v := (aR (mF ir.toNatClampNeg) 32)) hx hb d_M_part_64 rfl ?_
            refine lv_l2i (v := (aR (mF ir.toNatClampNeg) 32).toInt32) hx hb d_M_part_65 rfl ?_
            refine lv_goto (tgt := 76) hx hb d_M_part_66 (by decide) ?_
            have hE : g_M_part mT mF ir iwh = (((aR (mF ir.toNatClampNeg) 32).toInt32), 0) := by clear hP hD hl hS; unfold g_M_part; (try dsimp only); rw [if_neg c_5, if_neg c_13, if_pos c_18, if_neg c_39, if_pos c_53]
            have hP9 : va_P (dC, dI) classes [(bM, .inr (3, [.int ((g_M_part mT mF ir iwh).2), .int wd, .ref bT, .ref bF, .int al, .ref bN, .ref bP, .ref bQ, .ref bR, .int sz1, .int un, .int (b2i mo), .int tl, .int (b2i sp), .int tpo, .long fro, .int (b2i ly)])), (bT, .inl (kT, 8, .inl mT)), (bF, .inl (kF, 8, .inr (.inl mF)))] H := by rw [hE]; exact hP.sub [0, 1, 2] rfl
            have hD9 : va_D A [(bM, .inr (3, [.int ((g_M_part mT mF ir iwh).2), .int wd, .ref bT, .ref bF, .int al, .ref bN, .ref bP, .ref bQ, .ref bR, .int sz1, .int un, .int (b2i mo), .int tl, .int (b2i sp), .int tpo, .long fro, .int (b2i ly)])), (bT, .inl (kT, 8, .inl mT)), (bF, .inl (kF, 8, .inr (.inl mF)))] := by rw [hE]; exact hD.sub [0, 1, 2] (by decide) rfl
            exact W.iret (v := ((aR (mF ir.toNatClampNeg) 32).toInt32)) hx hb hr (fun t ht hW => ⟨⟨((aR (mF ir.toNatClampNeg) 32).toInt32), (), rfl, by rw [hE], by rw [ht]; exact hP9, hD9⟩, hS.F ht⟩) hS.2.2 d_M_part_76
        · skip
          refine lv_aload_n hx hb d_M_part_42 rfl (lv_at hl 0 rfl) ?_
          refine va_get (D := (dC, dI)) (ci := 3) (v := .ref bT) (C := R_M) (T := F_M) (N := 17) hx hb htA in_M hown hK hP 0 rfl rfl 2 (by decide) (htA _ k_266) (fun _ h9 => h9) rfl d_M_part_43 ?_
          refine lv_iload_n hx hb d_M_part_46 rfl (lv_at hl 1 rfl) ?_
          refine va_iald hx hb hK hP 1 0 rfl rfl (M_reg c_5) d_M_part_47 ?_
          refine lv_goto (tgt := 76) hx hb d_M_part_48 (by decide) ?_
          have hE : g_M_part mT mF ir iwh = ((mT ir.toNatClampNeg), 0) := by clear hP hD hl hS; unfold g_M_part; (try dsimp only); rw [if_neg c_5, if_neg c_13, if_pos c_18, if_pos c_39]
          have hP9 : va_P (dC, dI) classes [(bM, .inr (3, [.int ((g_M_part mT mF ir iwh).2), .int wd, .ref bT, .ref bF, .int al, .ref bN, .ref bP, .ref bQ, .ref bR, .int sz1, .int un, .int (b2i mo), .int tl, .int (b2i sp), .int tpo, .long fro, .int (b2i ly)])), (bT, .inl (kT, 8, .inl mT)), (bF, .inl (kF, 8, .inr (.inl mF)))] H := by rw [hE]; exact hP.sub [0, 1, 2] rfl
          have hD9 : va_D A [(bM, .inr (3, [.int ((g_M_part mT mF ir iwh).2), .int wd, .ref bT, .ref bF, .int al, .ref bN, .ref bP, .ref bQ, .ref bR, .int sz1, .int un, .int (b2i mo), .int tl, .int (b2i sp), .int tpo, .long fro, .int (b2i ly)])), (bT, .inl (kT, 8, .inl mT)), (bF, .inl (kF, 8, .inr (.inl mF)))] := by rw [hE]; exact hD.sub [0, 1, 2] (by decide) rfl
          exact W.iret (v := (mT ir.toNatClampNeg)) hx hb hr (fun t ht hW => ⟨⟨(mT ir.toNatClampNeg), (), rfl, by rw [hE], by rw [ht]; exact hP9, hD9⟩, hS.F ht⟩) hS.2.2 d_M_part_76
      · skip
        refine lv_iconst (v := 2) hx hb d_M_part_21 (by decide) ?_
        refine lv_goto (tgt := 26) hx hb d_M_part_22 (by decide) ?_
        refine va_put (D := (dC, dI)) (ci := 3) (v := .int 2) (ty := .int) (C := R_M) (T := F_M) (N := 17) hx hb htA in_M t_M t_M_ok n_M hown hK hP hD hS 0 rfl rfl 0 (by decide) (htA _ k_239) (fun _ h9 => h9) rfl (by decide +kernel) rfl rfl (Nat.le_of_ble_eq_true rfl) d_M_part_26 (fun H locs hP hD hS => ?_)
        have hP : va_P (dC, dI) classes [(bM, .inr (3, [.int 2, .int wd, .ref bT, .ref bF, .int al, .ref bN, .ref bP, .ref bQ, .ref bR, .int sz1, .int un, .int (b2i mo), .int tl, .int (b2i sp), .int tpo, .long fro, .int (b2i ly)])), (bT, .inl (kT, 8, .inl mT)), (bF, .inl (kF, 8, .inr (.inl mF)))] H := hP
        have hD : va_D A [(bM, .inr (3, [.int 2, .int wd, .ref bT, .ref bF, .int al, .ref bN, .ref bP, .ref bQ, .ref bR, .int sz1, .int un, .int (b2i mo), .int tl, .int (b2i sp), .int tpo, .long fro, .int (b2i ly)])), (bT, .inl (kT, 8, .inl mT)), (bF, .inl (kF, 8, .inr (.inl mF)))] := hD
        refine lv_aload_n hx hb d_M_part_29 rfl (lv_at hl 0 rfl) ?_
        refine va_get (D := (dC, dI)) (ci := 3) (v := .int 2) (C := R_M) (T := F_M) (N := 17) hx hb htA in_M hown hK hP 0 rfl rfl 0 (by decide) (htA _ k_239) (fun _ h9 => h9) rfl d_M_part_30 ?_
        refine lv_if_le (tgt := 38) hx hb d_M_part_33 (by decide) (fun c_33 => absurd c_33 (by decide)) (fun _ => ?_)
        refine lv_iconst (v := 0) hx hb d_M_part_36 (by decide) ?_
        have hE : g_M_part mT mF ir iwh = (0, 2) := by clear hP hD hl hS; unfold g_M_part; (try dsimp only); rw [if_neg c_5, if_neg c_13, if_neg c_18]
        have hP9 : va_P (dC, dI) classes [(bM, .inr (3, [.int ((g_M_part mT mF ir iwh).2), .int wd, .ref bT, .ref bF, .int al, .ref bN, .ref bP, .ref bQ, .ref bR, .int sz1, .int un, .int (b2i mo), .int tl, .int (b2i sp), .int tpo, .long fro, .int (b2i ly)])), (bT, .inl (kT, 8, .inl mT)), (bF, .inl (kF, 8, .inr (.inl mF)))] H := by rw [hE]; exact hP.sub [0, 1, 2] rfl
        have hD9 : va_D A [(bM, .inr (3, [.int ((g_M_part mT mF ir iwh).2), .int wd, .ref bT, .ref bF, .int al, .ref bN, .ref bP, .ref bQ, .ref bR, .int sz1, .int un, .int (b2i mo), .int tl, .int (b2i sp), .int tpo, .long fro, .int (b2i ly)])), (bT, .inl (kT, 8, .inl mT)), (bF, .inl (kF, 8, .inr (.inl mF)))] := by rw [hE]; exact hD.sub [0, 1, 2] (by decide) rfl
        exact W.iret (v := 0) hx hb hr (fun t ht hW => ⟨⟨0, (), rfl, by rw [hE], by rw [ht]; exact hP9, hD9⟩, hS.F ht⟩) hS.2.2 d_M_part_37
  · skip
    have c_5 : (g_M_none ir) = true := b2i_nz c_5
    refine lv_iconst (v := 1) hx hb d_M_part_8 (by decide) ?_
    refine lv_goto (tgt := 26) hx hb d_M_part_9 (by decide) ?_
    refine va_put (D := (dC, dI)) (ci := 3) (v := .int 1) (ty := .int) (C := R_M) (T := F_M) (N := 17) hx hb htA in_M t_M t_M_ok n_M hown hK hP hD hS 0 rfl rfl 0 (by decide) (htA _ k_239) (fun _ h9 => h9) rfl (by decide +kernel) rfl rfl (Nat.le_of_ble_eq_true rfl) d_M_part_26 (fun H locs hP hD hS => ?_)
    have hP : va_P (dC, dI) classes [(bM, .inr (3, [.int 1, .int wd, .ref bT, .ref bF, .int al, .ref bN, .ref bP, .ref bQ, .ref bR, .int sz1, .int un, .int (b2i mo), .int tl, .int (b2i sp), .int tpo, .long fro, .int (b2i ly)])), (bT, .inl (kT, 8, .inl mT)), (bF, .inl (kF, 8, .inr (.inl mF)))] H := hP
    have hD : va_D A [(bM, .inr (3, [.int 1, .int wd, .ref bT, .ref bF, .int al, .ref bN, .ref bP, .ref bQ, .ref bR, .int sz1, .int un, .int (b2i mo), .int tl, .int (b2i sp), .int tpo, .long fro, .int (b2i ly)])), (bT, .inl (kT, 8, .inl mT)), (bF, .inl (kF, 8, .inr (.inl mF)))] := hD
    refine lv_aload_n hx hb d_M_part_29 rfl (lv_at hl 0 rfl) ?_
    refine va_get (D := (dC, dI)) (ci := 3) (v := .int 1) (C := R_M) (T := F_M) (N := 17) hx hb htA in_M hown hK hP 0 rfl rfl 0 (by decide) (htA _ k_239) (fun _ h9 => h9) rfl d_M_part_30 ?_
    refine lv_if_le (tgt := 38) hx hb d_M_part_33 (by decide) (fun c_33 => absurd c_33 (by decide)) (fun _ => ?_)
    refine lv_iconst (v := 0) hx hb d_M_part_36 (by decide) ?_
    have hE : g_M_part mT mF ir iwh = (0, 1) := by clear hP hD hl hS; unfold g_M_part; (try dsimp only); rw [if_pos c_5]
    have hP9 : va_P (dC, dI) classes [(bM, .inr (3, [.int ((g_M_part mT mF ir iwh).2), .int wd, .ref bT, .ref bF, .int al, .ref bN, .ref bP, .ref bQ, .ref bR, .int sz1, .int un, .int (b2i mo), .int tl, .int (b2i sp), .int tpo, .long fro, .int (b2i ly)])), (bT, .inl (kT, 8, .inl mT)), (bF, .inl (kF, 8, .inr (.inl mF)))] H := by rw [hE]; exact hP.sub [0, 1, 2] rfl
    have hD9 : va_D A [(bM, .inr (3, [.int ((g_M_part mT mF ir iwh).2), .int wd, .ref bT, .ref bF, .int al, .ref bN, .ref bP, .ref bQ, .ref bR, .int sz1, .int un, .int (b2i mo), .int tl, .int (b2i sp), .int tpo, .long fro, .int (b2i ly)])), (bT, .inl (kT, 8, .inl mT)), (bF, .inl (kF, 8, .inr (.inl mF)))] := by rw [hE]; exact hD.sub [0, 1, 2] (by decide) rfl
    exact W.iret (v := 0) hx hb hr (fun t ht hW => ⟨⟨0, (), rfl, by rw [hE], by rw [ht]; exact hP9, hD9⟩, hS.F ht⟩) hS.2.2 d_M_part_37
theorem d_M_bit_0 : decode b_M_bit 0 = .ok (.iload_n 1, 1) := by decide +kernel
theorem d_M_bit_1 : decode b_M_bit 1 = .ok (.ifCond .lt 24, 3) := by decide +kernel
theorem d_M_bit_25 : decode b_M_bit 25 = .ok (.iconst 0, 1) := by decide +kernel
theorem d_M_bit_26 : decode b_M_bit 26 = .ok (.ireturn, 1) := by decide +kernel
theorem d_M_bit_4 : decode b_M_bit 4 = .ok (.iload_n 1, 1) := by decide +kernel
theorem d_M_bit_5 : decode b_M_bit 5 = .ok (.aload_n 0, 1) := by decide +kernel
theorem d_M_bit_6 : decode b_M_bit 6 = .ok (.getfield 63, 3) := by decide +kernel
theorem d_M_bit_9 : decode b_M_bit 9 = .ok (.if_icmp .ge 16, 3) := by decide +kernel
theorem d_M_bit_12 : decode b_M_bit 12 = .ok (.aload_n 0, 1) := by decide +kernel
theorem d_M_bit_13 : decode b_M_bit 13 = .ok (.getfield 32, 3) := by decide +kernel
theorem d_M_bit_16 : decode b_M_bit 16 = .ok (.iload_n 1, 1) := by decide +kernel
theorem d_M_bit_17 : decode b_M_bit 17 = .ok (.baload, 1) := by decide +kernel
theorem d_M_bit_18 : decode b_M_bit 18 = .ok (.ifCond .eq 7, 3) := by decide +kernel
theorem d_M_bit_21 : decode b_M_bit 21 = .ok (.iconst 1, 1) := by decide +kernel
theorem d_M_bit_22 : decode b_M_bit 22 = .ok (.goto 4, 3) := by decide +kernel
set_option maxHeartbeats 4000000 in
set_option maxRecDepth 100000 in
theorem c_M_bit (l : Launch) (dC : Nat → ClassId) (dI : Nat → Nat → Nat) (kR : ClassId) (bM : Nat) (bR : Nat) (bT : Nat) (bF : Nat) (bN : Nat) (bP : Nat) (bQ : Nat) (sz : Nat) (cd : Int32) (wd : Int32) (al : Int32) (sz1 : Int32) (un : Int32) (mo : Bool) (tl : Int32) (sp : Bool) (tpo : Int32) (fro : Int64) (ly : Bool) (rb : Nat → Bool) (ii : Int32) (hz : okz sz1) : Met l y_M_bit w_M_bit ({ frames := 0, cells := 0, slots := 0, locals := 0 }) (cPc (dC, dI) [(kR, .boolean)] [.ref bM, .int ii] [(bM, .inr (3, [.int cd, .int wd, .ref bT, .ref bF, .int al, .ref bN, .ref bP, .ref bQ, .ref bR, .int sz1, .int un, .int (b2i mo), .int tl, .int (b2i sp), .int tpo, .long fro, .int (b2i ly)])), (bR, .inl (kR, 33000, .inl (fun k => b2i (rb k))))] sz) (va_Qi (fun (r : Int32) (_ : Unit) => r = b2i ((g_M_bit sz1 rb ii))) (fun _ t => va_P (dC, dI) classes [(bM, .inr (3, [.int cd, .int wd, .ref bT, .ref bF, .int al, .ref bN, .ref bP, .ref bQ, .ref bR, .int sz1, .int un, .int (b2i mo), .int tl, .int (b2i sp), .int tpo, .long fro, .int (b2i ly)])), (bR, .inl (kR, 33000, .inl (fun k => b2i (rb k))))] t.heap ∧ va_D (va_A [(bM, .inr (3, [.int cd, .int wd, .ref bT, .ref bF, .int al, .ref bN, .ref bP, .ref bQ, .ref bR, .int sz1, .int un, .int (b2i mo), .int tl, .int (b2i sp), .int tpo, .long fro, .int (b2i ly)])), (bR, .inl (kR, 33000, .inl (fun k => b2i (rb k))))] sz) [(bM, .inr (3, [.int cd, .int wd, .ref bT, .ref bF, .int al, .ref bN, .ref bP, .ref bQ, .ref bR, .int sz1, .int un, .int (b2i mo), .int tl, .int (b2i sp), .int tpo, .long fro, .int (b2i ly)])), (bR, .inl (kR, 33000, .inl (fun k => b2i (rb k))))]) (va_A [(bM, .inr (3, [.int cd, .int wd, .ref bT, .ref bF, .int al, .ref bN, .ref bP, .ref bQ, .ref bR, .int sz1, .int un, .int (b2i mo), .int tl, .int (b2i sp), .int tpo, .long fro, .int (b2i ly)])), (bR, .inl (kR, 33000, .inl (fun k => b2i (rb k))))] sz)) 0 0 (va_A [(bM, .inr (3, [.int cd, .int wd, .ref bT, .ref bF, .int al, .ref bN, .ref bP, .ref bQ, .ref bR, .int sz1, .int un, .int (b2i mo), .int tl, .int (b2i sp), .int tpo, .long fro, .int (b2i ly)])), (bR, .inl (kR, 33000, .inl (fun k => b2i (rb k))))] sz) := by
  refine Met.ofW (cc := b_M_bit) (maxL := 2) (ret := (some .boolean)) (by decide) rfl ?_
  intro p e s m args below meth c s₁ B hml hv
  obtain ⟨rfl, hsz, hP, hK, hD0, hnw⟩ := hv
  have hx := B.exec
  have hb := B.bytes
  have hr := B.returns
  have hts := atoms_spec (ws := w_M_bit) B.pre
  have htA : ∀ w ∈ wAll, w.before _ s = true := fun w h => hts w (List.mem_cons_of_mem _ h)
  have hown : s.vm.findClass R_M = some m.cls := findClass_of_methodNamed B.named
  have hlocks := B.notSynchronized
  subst hsz
  have hD := hD0.self (sz := s.heap.size)
  generalize hAe : va_A [(bM, .inr (3, [.int cd, .int wd, .ref bT, .ref bF, .int al, .ref bN, .ref bP, .ref bQ, .ref bR, .int sz1, .int un, .int (b2i mo), .int tl, .int (b2i sp), .int tpo, .long fro, .int (b2i ly)])), (bR, .inl (kR, 33000, .inl (fun k => b2i (rb k))))] s.heap.size = A at hD ⊢
  have hA : ∀ q : Nat, s.heap.size ≤ q → A q := fun q h => by rw [← hAe]; exact Or.inr h
  have hS : va_S A s.heap s.heap [] := va_S.rf
  have hP : va_P (dC, dI) classes [(bM, .inr (3, [.int cd, .int wd, .ref bT, .ref bF, .int al, .ref bN, .ref bP, .ref bQ, .ref bR, .int sz1, .int un, .int (b2i mo), .int tl, .int (b2i sp), .int tpo, .long fro, .int (b2i ly)])), (bR, .inl (kR, 33000, .inl (fun k => b2i (rb k))))] s.heap := hP
  obtain ⟨H, eH⟩ : ∃ z, z = s.heap := ⟨_, rfl⟩
  rw [← eH] at hP
  have hS : va_S A s.heap H [] := by rw [eH]; exact hS
  rw [← eH]
  generalize ([] : List Loc) = locs at hS ⊢
  have hl := lv_entry ([.ref bM, .int ii]) (n := 2) (Nat.le_of_ble_eq_true rfl)
  rw [lg_entry_eq]
  generalize (lg_sl ([.ref bM, .int ii]) ++ List.replicate (2 - (lg_sl ([.ref bM, .int ii])).length) Slot.unset).toArray = ls at hl ⊢
  have hl : lv_has ls 2 [(0, .ref bM), (1, .int ii)] := hl
  refine lv_iload_n hx hb d_M_bit_0 rfl (lv_at hl 1 rfl) ?_
  refine lv_if_lt (tgt := 25) hx hb d_M_bit_1 (by decide) (fun c_1 => ?_) (fun c_1 => ?_)
  · skip
    refine lv_iconst (v := 0) hx hb d_M_bit_25 (by decide) ?_
    have hE : g_M_bit sz1 rb ii = (false) := by clear hP hD hl hS; unfold g_M_bit; (try dsimp only); rw [if_pos c_1]
    have hP9 : va_P (dC, dI) classes [(bM, .inr (3, [.int cd, .int wd, .ref bT, .ref bF, .int al, .ref bN, .ref bP, .ref bQ, .ref bR, .int sz1, .int un, .int (b2i mo), .int tl, .int (b2i sp), .int tpo, .long fro, .int (b2i ly)])), (bR, .inl (kR, 33000, .inl (fun k => b2i (rb k))))] H := by exact hP.sub [0, 1] rfl
    have hD9 : va_D A [(bM, .inr (3, [.int cd, .int wd, .ref bT, .ref bF, .int al, .ref bN, .ref bP, .ref bQ, .ref bR, .int sz1, .int un, .int (b2i mo), .int tl, .int (b2i sp), .int tpo, .long fro, .int (b2i ly)])), (bR, .inl (kR, 33000, .inl (fun k => b2i (rb k))))] := by exact hD.sub [0, 1] (by decide) rfl
    exact W.zret (v := 0) hx hb hr (by first | exact nar_b2i _ | rfl) (fun t ht hW => ⟨⟨0, (), rfl, by rw [hE]; rfl, by rw [ht]; exact hP9, hD9⟩, hS.F ht⟩) hS.2.2 d_M_bit_26
  · skip
    refine lv_iload_n hx hb d_M_bit_4 rfl (lv_at hl 1 rfl) ?_
    refine lv_aload_n hx hb d_M_bit_5 rfl (lv_at hl 0 rfl) ?_
    refine va_get (D := (dC, dI)) (ci := 3) (v := .int sz1) (C := R_M) (T := F_M) (N := 17) hx hb htA in_M hown hK hP 0 rfl rfl 9 (by decide) (htA _ k_271) (fun _ h9 => h9) rfl d_M_bit_6 ?_
    refine lv_icmp_ge (tgt := 25) hx hb d_M_bit_9 (by decide) (fun c_9 => ?_) (fun c_9 => ?_)
    · skip
      refine lv_iconst (v := 0) hx hb d_M_bit_25 (by decide) ?_
      have hE : g_M_bit sz1 rb ii = (false) := by clear hP hD hl hS; unfold g_M_bit; (try dsimp only); rw [if_neg c_1, if_pos c_9]
      have hP9 : va_P (dC, dI) classes [(bM, .inr (3, [.int cd, .int wd, .ref bT, .ref bF, .int al, .ref bN, .ref bP, .ref bQ, .ref bR, .int sz1, .int un, .int (b2i mo), .int tl, .int (b2i sp), .int tpo, .long fro, .int (b2i ly)])), (bR, .inl (kR, 33000, .inl (fun k => b2i (rb k))))] H := by exact hP.sub [0, 1] rfl
      have hD9 : va_D A [(bM, .inr (3, [.int cd, .int wd, .ref bT, .ref bF, .int al, .ref bN, .ref bP, .ref bQ, .ref bR, .int sz1, .int un, .int (b2i mo), .int tl, .int (b2i sp), .int tpo, .long fro, .int (b2i ly)])), (bR, .inl (kR, 33000, .inl (fun k => b2i (rb k))))] := by exact hD.sub [0, 1] (by decide) rfl
      exact W.zret (v := 0) hx hb hr (by first | exact nar_b2i _ | rfl) (fun t ht hW => ⟨⟨0, (), rfl, by rw [hE]; rfl, by rw [ht]; exact hP9, hD9⟩, hS.F ht⟩) hS.2.2 d_M_bit_26
    · skip
      refine lv_aload_n hx hb d_M_bit_12 rfl (lv_at hl 0 rfl) ?_
      refine va_get (D := (dC, dI)) (ci := 3) (v := .ref bR) (C := R_M) (T := F_M) (N := 17) hx hb htA in_M hown hK hP 0 rfl rfl 8 (by decide) (htA _ k_272) (fun _ h9 => h9) rfl d_M_bit_13 ?_
      refine lv_iload_n hx hb d_M_bit_16 rfl (lv_at hl 1 rfl) ?_
      refine va_zald hx hb hK hP 1 0 rfl rfl (row_in c_1 c_9 hz) d_M_bit_17 ?_
      refine lv_if_eq (tgt := 25) hx hb d_M_bit_18 (by decide) (fun c_18 => ?_) (fun c_18 => ?_)
      · skip
        have c_18 : ¬ (rb ii.toNatClampNeg) = true := b2i_z c_18
        refine lv_iconst (v := 0) hx hb d_M_bit_25 (by decide) ?_
        have hE : g_M_bit sz1 rb ii = (false) := by clear hP hD hl hS; unfold g_M_bit; (try dsimp only); rw [if_neg c_1, if_neg c_9, if_neg c_18]
        have hP9 : va_P (dC, dI) classes [(bM, .inr (3, [.int cd, .int wd, .ref bT, .ref bF, .int al, .ref bN, .ref bP, .ref bQ, .ref bR, .int sz1, .int un, .int (b2i mo), .int tl, .int (b2i sp), .int tpo, .long fro, .int (b2i ly)])), (bR, .inl (kR, 33000, .inl (fun k => b2i (rb k))))] H := by exact hP.sub [0, 1] rfl
        have hD9 : va_D A [(bM, .inr (3, [.int cd, .int wd, .ref bT, .ref bF, .int al, .ref bN, .ref bP, .ref bQ, .ref bR, .int sz1, .int un, .int (b2i mo), .int tl, .int (b2i sp), .int tpo, .long fro, .int (b2i ly)])), (bR, .inl (kR, 33000, .inl (fun k => b2i (rb k))))] := by exact hD.sub [0, 1] (by decide) rfl
        exact W.zret (v := 0) hx hb hr (by first | exact nar_b2i _ | rfl) (fun t ht hW => ⟨⟨0, (), rfl, by rw [hE]; rfl, by rw [ht]; exact hP9, hD9⟩, hS.F ht⟩) hS.2.2 d_M_bit_26
      · skip
        have c_18 : (rb ii.toNatClampNeg) = true := b2i_nz c_18
        refine lv_iconst (v := 1) hx hb d_M_bit_21 (by decide) ?_
        refine lv_goto (tgt := 26) hx hb d_M_bit_22 (by decide) ?_
        have hE : g_M_bit sz1 rb ii = (true) := by clear hP hD hl hS; unfold g_M_bit; (try dsimp only); rw [if_neg c_1, if_neg c_9, if_pos c_18]
        have hP9 : va_P (dC, dI) classes [(bM, .inr (3, [.int cd, .int wd, .ref bT, .ref bF, .int al, .ref bN, .ref bP, .ref bQ, .ref bR, .int sz1, .int un, .int (b2i mo), .int tl, .int (b2i sp), .int tpo, .long fro, .int (b2i ly)])), (bR, .inl (kR, 33000, .inl (fun k => b2i (rb k))))] H := by exact hP.sub [0, 1] rfl
        have hD9 : va_D A [(bM, .inr (3, [.int cd, .int wd, .ref bT, .ref bF, .int al, .ref bN, .ref bP, .ref bQ, .ref bR, .int sz1, .int un, .int (b2i mo), .int tl, .int (b2i sp), .int tpo, .long fro, .int (b2i ly)])), (bR, .inl (kR, 33000, .inl (fun k => b2i (rb k))))] := by exact hD.sub [0, 1] (by decide) rfl
        exact W.zret (v := 1) hx hb hr (by first | exact nar_b2i _ | rfl) (fun t ht hW => ⟨⟨1, (), rfl, by rw [hE]; rfl, by rw [ht]; exact hP9, hD9⟩, hS.F ht⟩) hS.2.2 d_M_bit_26
theorem d_M_highest_0 : decode b_M_highest 0 = .ok (.aload_n 0, 1) := by decide +kernel
theorem d_M_highest_1 : decode b_M_highest 1 = .ok (.getfield 63, 3) := by decide +kernel
theorem d_M_highest_4 : decode b_M_highest 4 = .ok (.iconst 1, 1) := by decide +kernel
theorem d_M_highest_5 : decode b_M_highest 5 = .ok (.isub, 1) := by decide +kernel
theorem d_M_highest_6 : decode b_M_highest 6 = .ok (.istore_n 1, 1) := by decide +kernel
theorem d_M_highest_7 : decode b_M_highest 7 = .ok (.iload_n 1, 1) := by decide +kernel
theorem d_M_highest_8 : decode b_M_highest 8 = .ok (.ifCond .lt 18, 3) := by decide +kernel
theorem d_M_highest_11 : decode b_M_highest 11 = .ok (.aload_n 0, 1) := by decide +kernel
theorem d_M_highest_12 : decode b_M_highest 12 = .ok (.getfield 32, 3) := by decide +kernel
theorem d_M_highest_15 : decode b_M_highest 15 = .ok (.iload_n 1, 1) := by decide +kernel
theorem d_M_highest_16 : decode b_M_highest 16 = .ok (.baload, 1) := by decide +kernel
theorem d_M_highest_17 : decode b_M_highest 17 = .ok (.ifCond .ne 9, 3) := by decide +kernel
theorem d_M_highest_20 : decode b_M_highest 20 = .ok (.iinc 1 (-1), 3) := by decide +kernel
theorem d_M_highest_23 : decode b_M_highest 23 = .ok (.goto (-16), 3) := by decide +kernel
theorem d_M_highest_26 : decode b_M_highest 26 = .ok (.iload_n 1, 1) := by decide +kernel
theorem d_M_highest_27 : decode b_M_highest 27 = .ok (.ireturn, 1) := by decide +kernel
set_option maxHeartbeats 4000000 in
set_option maxRecDepth 100000 in
theorem c_M_highest (l : Launch) (dC : Nat → ClassId) (dI : Nat → Nat → Nat) (kR : ClassId) (bM : Nat) (bR : Nat) (bT : Nat) (bF : Nat) (bN : Nat) (bP : Nat) (bQ : Nat) (sz : Nat) (cd : Int32) (wd : Int32) (al : Int32) (sz1 : Int32) (un : Int32) (mo : Bool) (tl : Int32) (sp : Bool) (tpo : Int32) (fro : Int64) (ly : Bool) (rb : Nat → Bool) (hz : okz sz1) : Met l y_M_highest w_M_highest ({ frames := 0, cells := 0, slots := 0, locals := 0 }) (cPc (dC, dI) [(kR, .boolean)] [.ref bM] [(bM, .inr (3, [.int cd, .int wd, .ref bT, .ref bF, .int al, .ref bN, .ref bP, .ref bQ, .ref bR, .int sz1, .int un, .int (b2i mo), .int tl, .int (b2i sp), .int tpo, .long fro, .int (b2i ly)])), (bR, .inl (kR, 33000, .inl (fun k => b2i (rb k))))] sz) (va_Qi (fun (r : Int32) (_ : Unit) => r = (g_M_highest sz1 rb)) (fun _ t => va_P (dC, dI) classes [(bM, .inr (3, [.int cd, .int wd, .ref bT, .ref bF, .int al, .ref bN, .ref bP, .ref bQ, .ref bR, .int sz1, .int un, .int (b2i mo), .int tl, .int (b2i sp), .int tpo, .long fro, .int (b2i ly)])), (bR, .inl (kR, 33000, .inl (fun k => b2i (rb k))))] t.heap ∧ va_D (va_A [(bM, .inr (3, [.int cd, .int wd, .ref bT, .ref bF, .int al, .ref bN, .ref bP, .ref bQ, .ref bR, .int sz1, .int un, .int (b2i mo), .int tl, .int (b2i sp), .int tpo, .long fro, .int (b2i ly)])), (bR, .inl (kR, 33000, .inl (fun k => b2i (rb k))))] sz) [(bM, .inr (3, [.int cd, .int wd, .ref bT, .ref bF, .int al, .ref bN, .ref bP, .ref bQ, .ref bR, .int sz1, .int un, .int (b2i mo), .int tl, .int (b2i sp), .int tpo, .long fro, .int (b2i ly)])), (bR, .inl (kR, 33000, .inl (fun k => b2i (rb k))))]) (va_A [(bM, .inr (3, [.int cd, .int wd, .ref bT, .ref bF, .int al, .ref bN, .ref bP, .ref bQ, .ref bR, .int sz1, .int un, .int (b2i mo), .int tl, .int (b2i sp), .int tpo, .long fro, .int (b2i ly)])), (bR, .inl (kR, 33000, .inl (fun k => b2i (rb k))))] sz)) 0 0 (va_A [(bM, .inr (3, [.int cd, .int wd, .ref bT, .ref bF, .int al, .ref bN, .ref bP, .ref bQ, .ref bR, .int sz1, .int un, .int (b2i mo), .int tl, .int (b2i sp), .int tpo, .long fro, .int (b2i ly)])), (bR, .inl (kR, 33000, .inl (fun k => b2i (rb k))))] sz) := by
  refine Met.ofW (cc := b_M_highest) (maxL := 2) (ret := (some .int)) (by decide) rfl ?_
  intro p e s m args below meth c s₁ B hml hv
  obtain ⟨rfl, hsz, hP, hK, hD0, hnw⟩ := hv
  have hx := B.exec
  have hb := B.bytes
  have hr := B.returns
  have hts := atoms_spec (ws := w_M_highest) B.pre
  have htA : ∀ w ∈ wAll, w.before _ s = true := fun w h => hts w (List.mem_cons_of_mem _ h)
  have hown : s.vm.findClass R_M = some m.cls := findClass_of_methodNamed B.named
  have hlocks := B.notSynchronized
  subst hsz
  have hD := hD0.self (sz := s.heap.size)
  generalize hAe : va_A [(bM, .inr (3, [.int cd, .int wd, .ref bT, .ref bF, .int al, .ref bN, .ref bP, .ref bQ, .ref bR, .int sz1, .int un, .int (b2i mo), .int tl, .int (b2i sp), .int tpo, .long fro, .int (b2i ly)])), (bR, .inl (kR, 33000, .inl (fun k => b2i (rb k))))] s.heap.size = A at hD ⊢
  have hA : ∀ q : Nat, s.heap.size ≤ q → A q := fun q h => by rw [← hAe]; exact Or.inr h
  have hS : va_S A s.heap s.heap [] := va_S.rf
  have hP : va_P (dC, dI) classes [(bM, .inr (3, [.int cd, .int wd, .ref bT, .ref bF, .int al, .ref bN, .ref bP, .ref bQ, .ref bR, .int sz1, .int un, .int (b2i mo), .int tl, .int (b2i sp), .int tpo, .long fro, .int (b2i ly)])), (bR, .inl (kR, 33000, .inl (fun k => b2i (rb k))))] s.heap := hP
  obtain ⟨H, eH⟩ : ∃ z, z = s.heap := ⟨_, rfl⟩
  rw [← eH] at hP
  have hS : va_S A s.heap H [] := by rw [eH]; exact hS
  rw [← eH]
  generalize ([] : List Loc) = locs at hS ⊢
  have hl := lv_entry ([.ref bM]) (n := 2) (Nat.le_of_ble_eq_true rfl)
  rw [lg_entry_eq]
  generalize (lg_sl ([.ref bM]) ++ List.replicate (2 - (lg_sl ([.ref bM])).length) Slot.unset).toArray = ls at hl ⊢
  have hl : lv_has ls 2 [(0, .ref bM)] := hl
  refine lv_aload_n hx hb d_M_highest_0 rfl (lv_at hl 0 rfl) ?_
  refine va_get (D := (dC, dI)) (ci := 3) (v := .int sz1) (C := R_M) (T := F_M) (N := 17) hx hb htA in_M hown hK hP 0 rfl rfl 9 (by decide) (htA _ k_271) (fun _ h9 => h9) rfl d_M_highest_1 ?_
  refine lv_iconst (v := 1) hx hb d_M_highest_4 (by decide) ?_
  refine lv_isub hx hb d_M_highest_5 ?_
  refine lv_istore_n (lv' := [(1, .int (sz1 - 1)), (0, .ref bM)]) hx hb d_M_highest_6 rfl hl (by decide) rfl (fun ls hl => ?_)
  refine loop_cut (S := Int32) (nx_M_highest_7 rb) 33000 ((sz1 - 1)) (M_highest_end rb sz1 hz) 0 0 (fun (x : Int32) (H : Heap) (locs : List Loc) (ls : Array Slot) => x.toInt < sz1.toInt ∧ va_P (dC, dI) classes [(bM, .inr (3, [.int cd, .int wd, .ref bT, .ref bF, .int al, .ref bN, .ref bP, .ref bQ, .ref bR, .int sz1, .int un, .int (b2i mo), .int tl, .int (b2i sp), .int tpo, .long fro, .int (b2i ly)])), (bR, .inl (kR, 33000, .inl (fun k => b2i (rb k))))] H ∧ va_D A [(bM, .inr (3, [.int cd, .int wd, .ref bT, .ref bF, .int al, .ref bN, .ref bP, .ref bQ, .ref bR, .int sz1, .int un, .int (b2i mo), .int tl, .int (b2i sp), .int tpo, .long fro, .int (b2i ly)])), (bR, .inl (kR, 33000, .inl (fun k => b2i (rb k))))] ∧ va_S A s.heap H locs ∧ lv_has ls 2 [(0, .ref bM), (1, .int x)]) (fun x ls => F0 m 7 ls []) (fun x ls => F0 m 26 ls []) ?_ ?_ H locs ls ⟨M_high0 hz, hP.sub [0, 1] rfl, hD.sub [0, 1] (by decide) rfl, hS, lv_sub hl [1, 0] rfl⟩
  · skip
    rintro v7_0 hex hbk H locs ls ⟨hinv, hP, hD, hS, hl⟩
    have hinv : v7_0.toInt < sz1.toInt := hinv
    have hP : va_P (dC, dI) classes [(bM, .inr (3, [.int cd, .int wd, .ref bT, .ref bF, .int al, .ref bN, .ref bP, .ref bQ, .ref bR, .int sz1, .int un, .int (b2i mo), .int tl, .int (b2i sp), .int tpo, .long fro, .int (b2i ly)])), (bR, .inl (kR, 33000, .inl (fun k => b2i (rb k))))] H := hP
    have hD : va_D A [(bM, .inr (3, [.int cd, .int wd, .ref bT, .ref bF, .int al, .ref bN, .ref bP, .ref bQ, .ref bR, .int sz1, .int un, .int (b2i mo), .int tl, .int (b2i sp), .int tpo, .long fro, .int (b2i ly)])), (bR, .inl (kR, 33000, .inl (fun k => b2i (rb k))))] := hD
    have hl : lv_has ls 2 [(0, .ref bM), (1, .int v7_0)] := hl
    refine lv_iload_n hx hb d_M_highest_7 rfl (lv_at hl 1 rfl) ?_
    refine lv_if_lt (tgt := 26) hx hb d_M_highest_8 (by decide) (fun c_8 => ?_) (fun c_8 => ?_)
    · skip
      exact hex (by clear hP hD hl hS; unfold nx_M_highest_7; (try dsimp only); rw [if_pos c_8]) H locs ls ⟨hinv, hP.sub [0, 1] rfl, hD.sub [0, 1] (by decide) rfl, hS, lv_sub hl [0, 1] rfl⟩
    · skip
      refine lv_aload_n hx hb d_M_highest_11 rfl (lv_at hl 0 rfl) ?_
      refine va_get (D := (dC, dI)) (ci := 3) (v := .ref bR) (C := R_M) (T := F_M) (N := 17) hx hb htA in_M hown hK hP 0 rfl rfl 8 (by decide) (htA _ k_272) (fun _ h9 => h9) rfl d_M_highest_12 ?_
      refine lv_iload_n hx hb d_M_highest_15 rfl (lv_at hl 1 rfl) ?_
      refine va_zald hx hb hK hP 1 0 rfl rfl (row_in2 c_8 hinv hz) d_M_highest_16 ?_
      refine lv_if_ne (tgt := 26) hx hb d_M_highest_17 (by decide) (fun c_17 => ?_) (fun c_17 => ?_)
      · skip
        have c_17 : (rb v7_0.toNatClampNeg) = true := b2i_nz c_17
        exact hex (by clear hP hD hl hS; unfold nx_M_highest_7; (try dsimp only); rw [if_neg c_8, if_pos c_17]) H locs ls ⟨hinv, hP.sub [0, 1] rfl, hD.sub [0, 1] (by decide) rfl, hS, lv_sub hl [0, 1] rfl⟩
      · skip
        have c_17 : ¬ (rb v7_0.toNatClampNeg) = true := b2i_z c_17
        refine lv_iinc (v := (v7_0 + (-1))) (lv' := [(1, .int (v7_0 + (-1))), (0, .ref bM)]) hx hb d_M_highest_20 hl (k := 1) rfl rfl (by decide) rfl (fun ls hl => ?_)
        refine lv_goto (tgt := 7) hx hb d_M_highest_23 (by decide) ?_
        exact hbk ((v7_0 + (-1))) (by clear hP hD hl hS; unfold nx_M_highest_7; (try dsimp only); rw [if_neg c_8, if_neg c_17]) H locs ls ⟨M_high1 c_8 hinv, hP.sub [0, 1] rfl, hD.sub [0, 1] (by decide) rfl, hS, lv_sub hl [1, 0] rfl⟩
  · skip
    rintro v7_0 H locs ls ev ⟨hinv, hP, hD, hS, hl⟩
    have hinv : v7_0.toInt < sz1.toInt := hinv
    have ev7_0 : (lrun (nx_M_highest_7 rb) 33000 ((sz1 - 1))) = v7_0 := by rw [← ev]
    clear ev
    have hP : va_P (dC, dI) classes [(bM, .inr (3, [.int cd, .int wd, .ref bT, .ref bF, .int al, .ref bN, .ref bP, .ref bQ, .ref bR, .int sz1, .int un, .int (b2i mo), .int tl, .int (b2i sp), .int tpo, .long fro, .int (b2i ly)])), (bR, .inl (kR, 33000, .inl (fun k => b2i (rb k))))] H := hP
    have hD : va_D A [(bM, .inr (3, [.int cd, .int wd, .ref bT, .ref bF, .int al, .ref bN, .ref bP, .ref bQ, .ref bR, .int sz1, .int un, .int (b2i mo), .int tl, .int (b2i sp), .int tpo, .long fro, .int (b2i ly)])), (bR, .inl (kR, 33000, .inl (fun k => b2i (rb k))))] := hD
    have hl : lv_has ls 2 [(0, .ref bM), (1, .int v7_0)] := hl
    refine lv_iload_n hx hb d_M_highest_26 rfl (lv_at hl 1 rfl) ?_
    have hE : g_M_highest sz1 rb = (v7_0) := by clear hP hD hl hS; subst ev7_0; unfold g_M_highest; rfl
    have hP9 : va_P (dC, dI) classes [(bM, .inr (3, [.int cd, .int wd, .ref bT, .ref bF, .int al, .ref bN, .ref bP, .ref bQ, .ref bR, .int sz1, .int un, .int (b2i mo), .int tl, .int (b2i sp), .int tpo, .long fro, .int (b2i ly)])), (bR, .inl (kR, 33000, .inl (fun k => b2i (rb k))))] H := by exact hP.sub [0, 1] rfl
    have hD9 : va_D A [(bM, .inr (3, [.int cd, .int wd, .ref bT, .ref bF, .int al, .ref bN, .ref bP, .ref bQ, .ref bR, .int sz1, .int un, .int (b2i mo), .int tl, .int (b2i sp), .int tpo, .long fro, .int (b2i ly)])), (bR, .inl (kR, 33000, .inl (fun k => b2i (rb k))))] := by exact hD.sub [0, 1] (by decide) rfl
    exact W.iret (v := v7_0) hx hb hr (fun t ht hW => ⟨⟨v7_0, (), rfl, by rw [hE], by rw [ht]; exact hP9, hD9⟩, hS.F ht⟩) hS.2.2 d_M_highest_27
