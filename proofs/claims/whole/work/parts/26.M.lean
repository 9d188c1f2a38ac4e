theorem d_M_rest_0 : decode b_M_rest 0 = .ok (.aload_n 0, 1) := by decide +kernel
theorem d_M_rest_1 : decode b_M_rest 1 = .ok (.getfield 66, 3) := by decide +kernel
theorem d_M_rest_4 : decode b_M_rest 4 = .ok (.istore_n 2, 1) := by decide +kernel
theorem d_M_rest_5 : decode b_M_rest 5 = .ok (.iconst 0, 1) := by decide +kernel
theorem d_M_rest_6 : decode b_M_rest 6 = .ok (.istore_n 3, 1) := by decide +kernel
theorem d_M_rest_7 : decode b_M_rest 7 = .ok (.iload_n 3, 1) := by decide +kernel
theorem d_M_rest_8 : decode b_M_rest 8 = .ok (.iload_n 1, 1) := by decide +kernel
theorem d_M_rest_9 : decode b_M_rest 9 = .ok (.if_icmp .ge 36, 3) := by decide +kernel
theorem d_M_rest_12 : decode b_M_rest 12 = .ok (.iload_n 3, 1) := by decide +kernel
theorem d_M_rest_13 : decode b_M_rest 13 = .ok (.aload_n 0, 1) := by decide +kernel
theorem d_M_rest_14 : decode b_M_rest 14 = .ok (.getfield 63, 3) := by decide +kernel
theorem d_M_rest_17 : decode b_M_rest 17 = .ok (.if_icmp .ge 28, 3) := by decide +kernel
theorem d_M_rest_20 : decode b_M_rest 20 = .ok (.iload_n 2, 1) := by decide +kernel
theorem d_M_rest_21 : decode b_M_rest 21 = .ok (.ifCond .ne 12, 3) := by decide +kernel
theorem d_M_rest_33 : decode b_M_rest 33 = .ok (.iconst 1, 1) := by decide +kernel
theorem d_M_rest_34 : decode b_M_rest 34 = .ok (.goto 4, 3) := by decide +kernel
theorem d_M_rest_24 : decode b_M_rest 24 = .ok (.aload_n 0, 1) := by decide +kernel
theorem d_M_rest_25 : decode b_M_rest 25 = .ok (.getfield 32, 3) := by decide +kernel
theorem d_M_rest_28 : decode b_M_rest 28 = .ok (.iload_n 3, 1) := by decide +kernel
theorem d_M_rest_29 : decode b_M_rest 29 = .ok (.baload, 1) := by decide +kernel
theorem d_M_rest_30 : decode b_M_rest 30 = .ok (.ifCond .eq 7, 3) := by decide +kernel
theorem d_M_rest_37 : decode b_M_rest 37 = .ok (.iconst 0, 1) := by decide +kernel
theorem d_M_rest_38 : decode b_M_rest 38 = .ok (.istore_n 2, 1) := by decide +kernel
theorem d_M_rest_39 : decode b_M_rest 39 = .ok (.iinc 3 1, 3) := by decide +kernel
theorem d_M_rest_42 : decode b_M_rest 42 = .ok (.goto (-35), 3) := by decide +kernel
theorem d_M_rest_45 : decode b_M_rest 45 = .ok (.iload_n 2, 1) := by decide +kernel
theorem d_M_rest_46 : decode b_M_rest 46 = .ok (.ireturn, 1) := by decide +kernel
set_option maxHeartbeats 4000000 in
set_option maxRecDepth 100000 in
theorem c_M_rest (l : Launch) (dC : Nat → ClassId) (dI : Nat → Nat → Nat) (kR : ClassId) (bM : Nat) (bR : Nat) (bT : Nat) (bF : Nat) (bN : Nat) (bP : Nat) (bQ : Nat) (sz : Nat) (cd : Int32) (wd : Int32) (al : Int32) (sz1 : Int32) (un : Int32) (mo : Bool) (tl : Int32) (sp : Bool) (tpo : Int32) (fro : Int64) (ly : Bool) (rb : Nat → Bool) (ii : Int32) (hz : okz sz1) : Met l y_M_rest w_M_rest ({ frames := 0, cells := 0, slots := 0, locals := 0 }) (cPc (dC, dI) [(kR, .boolean)] [.ref bM, .int ii] [(bM, .inr (3, [.int cd, .int wd, .ref bT, .ref bF, .int al, .ref bN, .ref bP, .ref bQ, .ref bR, .int sz1, .int un, .int (b2i mo), .int tl, .int (b2i sp), .int tpo, .long fro, .int (b2i ly)])), (bR, .inl (kR, 33000, .inl (fun k => b2i (rb k))))] sz) (va_Qi (fun (r : Int32) (_ : Unit) => r = b2i ((g_M_rest sz1 mo rb ii))) (fun _ t => va_P (dC, dI) classes [(bM, .inr (3, [.int cd, .int wd, .ref bT, .ref bF, .int al, .ref bN, .ref bP, .ref bQ, .ref bR, .int sz1, .int un, .int (b2i mo), .int tl, .int (b2i sp), .int tpo, .long fro, .int (b2i ly)])), (bR, .inl (kR, 33000, .inl (fun k => b2i (rb k))))] t.heap ∧ va_D (va_A [(bM, .inr (3, [.int cd, .int wd, .ref bT, .ref bF, .int al, .ref bN, .ref bP, .ref bQ, .ref bR, .int sz1, .int un, .int (b2i mo), .int tl, .int (b2i sp), .int tpo, .long fro, .int (b2i ly)])), (bR, .inl (kR, 33000, .inl (fun k => b2i (rb k))))] sz) [(bM, .inr (3, [.int cd, .int wd, .ref bT, .ref bF, .int al, .ref bN, .ref bP, .ref bQ, .ref bR, .int sz1, .int un, .int (b2i mo), .int tl, .int (b2i sp), .int tpo, .long fro, .int (b2i ly)])), (bR, .inl (kR, 33000, .inl (fun k => b2i (rb k))))]) (va_A [(bM, .inr (3, [.int cd, .int wd, .ref bT, .ref bF, .int al, .ref bN, .ref bP, .ref bQ, .ref bR, .int sz1, .int un, .int (b2i mo), .int tl, .int (b2i sp), .int tpo, .long fro, .int (b2i ly)])), (bR, .inl (kR, 33000, .inl (fun k => b2i (rb k))))] sz)) 0 0 (va_A [(bM, .inr (3, [.int cd, .int wd, .ref bT, .ref bF, .int al, .ref bN, .ref bP, .ref bQ, .ref bR, .int sz1, .int un, .int (b2i mo), .int tl, .int (b2i sp), .int tpo, .long fro, .int (b2i ly)])), (bR, .inl (kR, 33000, .inl (fun k => b2i (rb k))))] sz) := by
  refine Met.ofW (cc := b_M_rest) (maxL := 4) (ret := (some .boolean)) (by decide) rfl ?_
  intro p e s m args below meth c s₁ B hml hv
  obtain ⟨rfl, hsz, hP, hK, hD0, hnw⟩ := hv
  have hx := B.exec
  have hb := B.bytes
  have hr := B.returns
  have hts := atoms_spec (ws := w_M_rest) B.pre
  have htA : ∀ w ∈ wAll, w.before _ s = true := fun w h => hts w (List.mem_cons_of_mem _ h)
  have hown : s.vm.findClass R_M = some m.cls := findClass_of_methodNamed B.named
  have hlocks := B.notSynchronized
  subst hsz
  have hD := hD0.self (sz := s.heap.size)
  generalize hAe : va_A [(bM, .inr (3, [.int cd, .int wd, .ref bT, .ref bF, .int al, .ref bN, .ref bP, .ref bQ, .ref bR, .int sz1, .int un, .int (b2i mo), .int tl, .int (b2i sp), .int tpo, .long fro, .int (b2i ly)])), (bR, .inl (kR, 33000, .inl (fun k => b2i (rb k))))] s.heap.size = A at hD ⊢
  have hA : ∀ q : Nat, s.heap.size ≤ q → A q := fun q h => by rw [← hAe]; exact Or.inr h
  have hS : va_S A s.heap s.heap [] := va_S.rf
  have hP : va_P (dC, dI) classes [(bM, .inr (3, [.int cd, .int wd, .ref bT, .ref bF, .int al, .ref bN, .ref bP, .ref bQ, .ref bR, .int sz1, .int un, .int (b2i mo), .int tl, .int (b2i sp), .int tpo, .long fro, .int (b2i ly)])), (bR, .inl (kR, 33000, .inl (fun k => b2i (rb k))))] s.heap := hP
  obtain ⟨H, eH⟩ : ∃ z, z = s.heap := ⟨_, rfl⟩
  rw [← eH] at hP
  have hS : va_S A s.heap H [] := by rw [eH]; exact hS
  rw [← eH]
  generalize ([] : List Loc) = locs at hS ⊢
  have hl := lv_entry ([.ref bM, .int ii]) (n := 4) (Nat.le_of_ble_eq_true rfl)
  rw [lg_entry_eq]
  generalize (lg_sl ([.ref bM, .int ii]) ++ List.replicate (4 - (lg_sl ([.ref bM, .int ii])).length) Slot.unset).toArray = ls at hl ⊢
  have hl : lv_has ls 4 [(0, .ref bM), (1, .int ii)] := hl
  refine lv_aload_n hx hb d_M_rest_0 rfl (lv_at hl 0 rfl) ?_
  refine va_get (D := (dC, dI)) (ci := 3) (v := .int (b2i mo)) (C := R_M) (T := F_M) (N := 17) hx hb htA in_M hown hK hP 0 rfl rfl 11 (by decide) (htA _ k_275) (fun _ h9 => h9) rfl d_M_rest_1 ?_
  refine lv_istore_n (lv' := [(2, .int (b2i mo)), (0, .ref bM), (1, .int ii)]) hx hb d_M_rest_4 rfl hl (by decide) rfl (fun ls hl => ?_)
  refine lv_iconst (v := 0) hx hb d_M_rest_5 (by decide) ?_
  refine lv_istore_n (lv' := [(3, .int 0), (2, .int (b2i mo)), (0, .ref bM), (1, .int ii)]) hx hb d_M_rest_6 rfl hl (by decide) rfl (fun ls hl => ?_)
  refine loop_cut (S := Bool × Int32) (nx_M_rest_7 sz1 rb ii) 33000 (mo, 0) (M_rest_end rb sz1 ii mo hz) 0 0 (fun (x : Bool × Int32) (H : Heap) (locs : List Loc) (ls : Array Slot) => 0 ≤ x.2.toInt ∧ va_P (dC, dI) classes [(bM, .inr (3, [.int cd, .int wd, .ref bT, .ref bF, .int al, .ref bN, .ref bP, .ref bQ, .ref bR, .int sz1, .int un, .int (b2i mo), .int tl, .int (b2i sp), .int tpo, .long fro, .int (b2i ly)])), (bR, .inl (kR, 33000, .inl (fun k => b2i (rb k))))] H ∧ va_D A [(bM, .inr (3, [.int cd, .int wd, .ref bT, .ref bF, .int al, .ref bN, .ref bP, .ref bQ, .ref bR, .int sz1, .int un, .int (b2i mo), .int tl, .int (b2i sp), .int tpo, .long fro, .int (b2i ly)])), (bR, .inl (kR, 33000, .inl (fun k => b2i (rb k))))] ∧ va_S A s.heap H locs ∧ lv_has ls 4 [(0, .ref bM), (1, .int ii), (2, .int (b2i x.1)), (3, .int x.2)]) (fun x ls => F0 m 7 ls []) (fun x ls => F0 m 45 ls []) ?_ ?_ H locs ls ⟨nn_0, hP.sub [0, 1] rfl, hD.sub [0, 1] (by decide) rfl, hS, lv_sub hl [2, 3, 1, 0] rfl⟩
  · skip
    rintro ⟨v7_0, v7_1⟩ hex hbk H locs ls ⟨hinv, hP, hD, hS, hl⟩
    have hinv : 0 ≤ v7_1.toInt := hinv
    have hP : va_P (dC, dI) classes [(bM, .inr (3, [.int cd, .int wd, .ref bT, .ref bF, .int al, .ref bN, .ref bP, .ref bQ, .ref bR, .int sz1, .int un, .int (b2i mo), .int tl, .int (b2i sp), .int tpo, .long fro, .int (b2i ly)])), (bR, .inl (kR, 33000, .inl (fun k => b2i (rb k))))] H := hP
    have hD : va_D A [(bM, .inr (3, [.int cd, .int wd, .ref bT, .ref bF, .int al, .ref bN, .ref bP, .ref bQ, .ref bR, .int sz1, .int un, .int (b2i mo), .int tl, .int (b2i sp), .int tpo, .long fro, .int (b2i ly)])), (bR, .inl (kR, 33000, .inl (fun k => b2i (rb k))))] := hD
    have hl : lv_has ls 4 [(0, .ref bM), (1, .int ii), (2, .int (b2i v7_0)), (3, .int v7_1)] := hl
    refine lv_iload_n hx hb d_M_rest_7 rfl (lv_at hl 3 rfl) ?_
    refine lv_iload_n hx hb d_M_rest_8 rfl (lv_at hl 1 rfl) ?_
    refine lv_icmp_ge (tgt := 45) hx hb d_M_rest_9 (by decide) (fun c_9 => ?_) (fun c_9 => ?_)
    · skip
      exact hex (by clear hP hD hl hS; unfold nx_M_rest_7; (try dsimp only); rw [if_pos c_9]) H locs ls ⟨hinv, hP.sub [0, 1] rfl, hD.sub [0, 1] (by decide) rfl, hS, lv_sub hl [0, 1, 2, 3] rfl⟩
    · skip
      refine lv_iload_n hx hb d_M_rest_12 rfl (lv_at hl 3 rfl) ?_
      refine lv_aload_n hx hb d_M_rest_13 rfl (lv_at hl 0 rfl) ?_
      refine va_get (D := (dC, dI)) (ci := 3) (v := .int sz1) (C := R_M) (T := F_M) (N := 17) hx hb htA in_M hown hK hP 0 rfl rfl 9 (by decide) (htA _ k_271) (fun _ h9 => h9) rfl d_M_rest_14 ?_
      refine lv_icmp_ge (tgt := 45) hx hb d_M_rest_17 (by decide) (fun c_17 => ?_) (fun c_17 => ?_)
      · skip
        exact hex (by clear hP hD hl hS; unfold nx_M_rest_7; (try dsimp only); rw [if_neg c_9, if_pos c_17]) H locs ls ⟨hinv, hP.sub [0, 1] rfl, hD.sub [0, 1] (by decide) rfl, hS, lv_sub hl [0, 1, 2, 3] rfl⟩
      · skip
        refine lv_iload_n hx hb d_M_rest_20 rfl (lv_at hl 2 rfl) ?_
        refine cut_join (X := Bool) 0 0 (fun (x : Bool) (H : Heap) (locs : List Loc) (ls : Array Slot) => (if v7_0 = true then true else if (rb v7_1.toNatClampNeg) = true then true else false) = x ∧ va_P (dC, dI) classes [(bM, .inr (3, [.int cd, .int wd, .ref bT, .ref bF, .int al, .ref bN, .ref bP, .ref bQ, .ref bR, .int sz1, .int un, .int (b2i mo), .int tl, .int (b2i sp), .int tpo, .long fro, .int (b2i ly)])), (bR, .inl (kR, 33000, .inl (fun k => b2i (rb k))))] H ∧ va_D A [(bM, .inr (3, [.int cd, .int wd, .ref bT, .ref bF, .int al, .ref bN, .ref bP, .ref bQ, .ref bR, .int sz1, .int un, .int (b2i mo), .int tl, .int (b2i sp), .int tpo, .long fro, .int (b2i ly)])), (bR, .inl (kR, 33000, .inl (fun k => b2i (rb k))))] ∧ va_S A s.heap H locs ∧ lv_has ls 4 [(0, .ref bM), (1, .int ii), (2, .int (b2i v7_0)), (3, .int v7_1)]) (fun x ls => F0 m 38 ls [.int (b2i x)]) ?_ (fun J38 => ?_)
        · skip
          rintro j38_0 H locs ls ⟨ej38_0, hP, hD, hS, hl⟩
          have ej38_0 : (if v7_0 = true then true else if (rb v7_1.toNatClampNeg) = true then true else false) = j38_0 := ej38_0
          have hP : va_P (dC, dI) classes [(bM, .inr (3, [.int cd, .int wd, .ref bT, .ref bF, .int al, .ref bN, .ref bP, .ref bQ, .ref bR, .int sz1, .int un, .int (b2i mo), .int tl, .int (b2i sp), .int tpo, .long fro, .int (b2i ly)])), (bR, .inl (kR, 33000, .inl (fun k => b2i (rb k))))] H := hP
          have hD : va_D A [(bM, .inr (3, [.int cd, .int wd, .ref bT, .ref bF, .int al, .ref bN, .ref bP, .ref bQ, .ref bR, .int sz1, .int un, .int (b2i mo), .int tl, .int (b2i sp), .int tpo, .long fro, .int (b2i ly)])), (bR, .inl (kR, 33000, .inl (fun k => b2i (rb k))))] := hD
          have hl : lv_has ls 4 [(0, .ref bM), (1, .int ii), (2, .int (b2i v7_0)), (3, .int v7_1)] := hl
          refine lv_istore_n (lv' := [(2, .int (b2i j38_0)), (0, .ref bM), (1, .int ii), (3, .int v7_1)]) hx hb d_M_rest_38 rfl hl (by decide) rfl (fun ls hl => ?_)
          refine lv_iinc (v := (v7_1 + 1)) (lv' := [(3, .int (v7_1 + 1)), (2, .int (b2i j38_0)), (0, .ref bM), (1, .int ii)]) hx hb d_M_rest_39 hl (k := 3) rfl rfl (by decide) rfl (fun ls hl => ?_)
          refine lv_goto (tgt := 7) hx hb d_M_rest_42 (by decide) ?_
          exact hbk (j38_0, (v7_1 + 1)) (by clear hP hD hl hS; subst ej38_0; unfold nx_M_rest_7; (try dsimp only); rw [if_neg c_9, if_neg c_17]) H locs ls ⟨inc_nn hinv c_17 hz, hP.sub [0, 1] rfl, hD.sub [0, 1] (by decide) rfl, hS, lv_sub hl [2, 3, 1, 0] rfl⟩
        · skip
          refine lv_if_ne (tgt := 33) hx hb d_M_rest_21 (by decide) (fun c_21 => ?_) (fun c_21 => ?_)
          · skip
            have c_21 : v7_0 = true := b2i_nz c_21
            refine lv_iconst (v := 1) hx hb d_M_rest_33 (by decide) ?_
            refine lv_goto (tgt := 38) hx hb d_M_rest_34 (by decide) ?_
            exact J38 (true) H locs ls ⟨by clear hP hD hl hS; (try dsimp only); rw [if_pos c_21], hP.sub [0, 1] rfl, hD.sub [0, 1] (by decide) rfl, hS, lv_sub hl [0, 1, 2, 3] rfl⟩
          · skip
            have c_21 : ¬ v7_0 = true := b2i_z c_21
            refine lv_aload_n hx hb d_M_rest_24 rfl (lv_at hl 0 rfl) ?_
            refine va_get (D := (dC, dI)) (ci := 3) (v := .ref bR) (C := R_M) (T := F_M) (N := 17) hx hb htA in_M hown hK hP 0 rfl rfl 8 (by decide) (htA _ k_272) (fun _ h9 => h9) rfl d_M_rest_25 ?_
            refine lv_iload_n hx hb d_M_rest_28 rfl (lv_at hl 3 rfl) ?_
            refine va_zald hx hb hK hP 1 0 rfl rfl (row_in3 hinv c_17 hz) d_M_rest_29 ?_
            refine lv_if_eq (tgt := 37) hx hb d_M_rest_30 (by decide) (fun c_30 => ?_) (fun c_30 => ?_)
            · skip
              have c_30 : ¬ (rb v7_1.toNatClampNeg) = true := b2i_z c_30
              refine lv_iconst (v := 0) hx hb d_M_rest_37 (by decide) ?_
              exact J38 (false) H locs ls ⟨by clear hP hD hl hS; (try dsimp only); rw [if_neg c_21, if_neg c_30], hP.sub [0, 1] rfl, hD.sub [0, 1] (by decide) rfl, hS, lv_sub hl [0, 1, 2, 3] rfl⟩
            · skip
              have c_30 : (rb v7_1.toNatClampNeg) = true := b2i_nz c_30
              refine lv_iconst (v := 1) hx hb d_M_rest_33 (by decide) ?_
              refine lv_goto (tgt := 38) hx hb d_M_rest_34 (by decide) ?_
              exact J38 (true) H locs ls ⟨by clear hP hD hl hS; (try dsimp only); rw [if_neg c_21, if_pos c_30], hP.sub [0, 1] rfl, hD.sub [0, 1] (by decide) rfl, hS, lv_sub hl [0, 1, 2, 3] rfl⟩
  · skip
    rintro ⟨v7_0, v7_1⟩ H locs ls ev ⟨hinv, hP, hD, hS, hl⟩
    have hinv : 0 ≤ v7_1.toInt := hinv
    have ev7_0 : (lrun (nx_M_rest_7 sz1 rb ii) 33000 (mo, 0)).1 = v7_0 := by rw [← ev]
    have ev7_1 : (lrun (nx_M_rest_7 sz1 rb ii) 33000 (mo, 0)).2 = v7_1 := by rw [← ev]
    clear ev
    have hP : va_P (dC, dI) classes [(bM, .inr (3, [.int cd, .int wd, .ref bT, .ref bF, .int al, .ref bN, .ref bP, .ref bQ, .ref bR, .int sz1, .int un, .int (b2i mo), .int tl, .int (b2i sp), .int tpo, .long fro, .int (b2i ly)])), (bR, .inl (kR, 33000, .inl (fun k => b2i (rb k))))] H := hP
    have hD : va_D A [(bM, .inr (3, [.int cd, .int wd, .ref bT, .ref bF, .int al, .ref bN, .ref bP, .ref bQ, .ref bR, .int sz1, .int un, .int (b2i mo), .int tl, .int (b2i sp), .int tpo, .long fro, .int (b2i ly)])), (bR, .inl (kR, 33000, .inl (fun k => b2i (rb k))))] := hD
    have hl : lv_has ls 4 [(0, .ref bM), (1, .int ii), (2, .int (b2i v7_0)), (3, .int v7_1)] := hl
    refine lv_iload_n hx hb d_M_rest_45 rfl (lv_at hl 2 rfl) ?_
    have hE : g_M_rest sz1 mo rb ii = (v7_0) := by clear hP hD hl hS; subst ev7_1; subst ev7_0; unfold g_M_rest; rfl
    have hP9 : va_P (dC, dI) classes [(bM, .inr (3, [.int cd, .int wd, .ref bT, .ref bF, .int al, .ref bN, .ref bP, .ref bQ, .ref bR, .int sz1, .int un, .int (b2i mo), .int tl, .int (b2i sp), .int tpo, .long fro, .int (b2i ly)])), (bR, .inl (kR, 33000, .inl (fun k => b2i (rb k))))] H := by exact hP.sub [0, 1] rfl
    have hD9 : va_D A [(bM, .inr (3, [.int cd, .int wd, .ref bT, .ref bF, .int al, .ref bN, .ref bP, .ref bQ, .ref bR, .int sz1, .int un, .int (b2i mo), .int tl, .int (b2i sp), .int tpo, .long fro, .int (b2i ly)])), (bR, .inl (kR, 33000, .inl (fun k => b2i (rb k))))] := by exact hD.sub [0, 1] (by decide) rfl
    exact W.zret (v := (b2i v7_0)) hx hb hr (by first | exact nar_b2i _ | rfl) (fun t ht hW => ⟨⟨(b2i v7_0), (), rfl, by rw [hE], by rw [ht]; exact hP9, hD9⟩, hS.F ht⟩) hS.2.2 d_M_rest_46
theorem d_M_times_0 : decode b_M_times 0 = .ok (.iload_n 1, 1) := by decide +kernel
theorem d_M_times_1 : decode b_M_times 1 = .ok (.aload_n 0, 1) := by decide +kernel
theorem d_M_times_2 : decode b_M_times 2 = .ok (.getfield 69, 3) := by decide +kernel
theorem d_M_times_5 : decode b_M_times 5 = .ok (.isub, 1) := by decide +kernel
theorem d_M_times_6 : decode b_M_times 6 = .ok (.istore_n 3, 1) := by decide +kernel
theorem d_M_times_7 : decode b_M_times 7 = .ok (.lconst 0, 1) := by decide +kernel
theorem d_M_times_8 : decode b_M_times 8 = .ok (.lstore 4, 2) := by decide +kernel
theorem d_M_times_10 : decode b_M_times 10 = .ok (.bipush 63, 2) := by decide +kernel
theorem d_M_times_12 : decode b_M_times 12 = .ok (.istore 6, 2) := by decide +kernel
theorem d_M_times_14 : decode b_M_times 14 = .ok (.iload 6, 2) := by decide +kernel
theorem d_M_times_16 : decode b_M_times 16 = .ok (.ifCond .lt 34, 3) := by decide +kernel
theorem d_M_times_19 : decode b_M_times 19 = .ok (.ldc2_w 72, 3) := by decide +kernel
theorem d_M_times_22 : decode b_M_times 22 = .ok (.lload 4, 2) := by decide +kernel
theorem d_M_times_24 : decode b_M_times 24 = .ok (.lmul, 1) := by decide +kernel
theorem d_M_times_25 : decode b_M_times 25 = .ok (.aload_n 0, 1) := by decide +kernel
theorem d_M_times_26 : decode b_M_times 26 = .ok (.iload_n 3, 1) := by decide +kernel
theorem d_M_times_27 : decode b_M_times 27 = .ok (.iload 6, 2) := by decide +kernel
theorem d_M_times_29 : decode b_M_times 29 = .ok (.iadd, 1) := by decide +kernel
theorem d_M_times_30 : decode b_M_times 30 = .ok (.invokevirtual 74, 3) := by decide +kernel
theorem d_M_times_33 : decode b_M_times 33 = .ok (.ifCond .eq 7, 3) := by decide +kernel
theorem d_M_times_40 : decode b_M_times 40 = .ok (.lconst 0, 1) := by decide +kernel
theorem d_M_times_36 : decode b_M_times 36 = .ok (.lconst 1, 1) := by decide +kernel
theorem d_M_times_37 : decode b_M_times 37 = .ok (.goto 4, 3) := by decide +kernel
theorem d_M_times_41 : decode b_M_times 41 = .ok (.ladd, 1) := by decide +kernel
theorem d_M_times_42 : decode b_M_times 42 = .ok (.lstore 4, 2) := by decide +kernel
theorem d_M_times_44 : decode b_M_times 44 = .ok (.iinc 6 (-1), 3) := by decide +kernel
theorem d_M_times_47 : decode b_M_times 47 = .ok (.goto (-33), 3) := by decide +kernel
theorem d_M_times_50 : decode b_M_times 50 = .ok (.aload_n 0, 1) := by decide +kernel
theorem d_M_times_51 : decode b_M_times 51 = .ok (.iload_n 3, 1) := by decide +kernel
theorem d_M_times_52 : decode b_M_times 52 = .ok (.iconst 1, 1) := by decide +kernel
theorem d_M_times_53 : decode b_M_times 53 = .ok (.isub, 1) := by decide +kernel
theorem d_M_times_54 : decode b_M_times 54 = .ok (.invokevirtual 74, 3) := by decide +kernel
theorem d_M_times_57 : decode b_M_times 57 = .ok (.istore 6, 2) := by decide +kernel
theorem d_M_times_59 : decode b_M_times 59 = .ok (.aload_n 0, 1) := by decide +kernel
theorem d_M_times_60 : decode b_M_times 60 = .ok (.iload_n 3, 1) := by decide +kernel
theorem d_M_times_61 : decode b_M_times 61 = .ok (.iconst 1, 1) := by decide +kernel
theorem d_M_times_62 : decode b_M_times 62 = .ok (.isub, 1) := by decide +kernel
theorem d_M_times_63 : decode b_M_times 63 = .ok (.invokevirtual 77, 3) := by decide +kernel
theorem d_M_times_66 : decode b_M_times 66 = .ok (.istore 7, 2) := by decide +kernel
theorem d_M_times_68 : decode b_M_times 68 = .ok (.aload_n 0, 1) := by decide +kernel
theorem d_M_times_69 : decode b_M_times 69 = .ok (.iload 6, 2) := by decide +kernel
theorem d_M_times_71 : decode b_M_times 71 = .ok (.ifCond .ne 8, 3) := by decide +kernel
theorem d_M_times_79 : decode b_M_times 79 = .ok (.iconst 1, 1) := by decide +kernel
theorem d_M_times_80 : decode b_M_times 80 = .ok (.goto 4, 3) := by decide +kernel
theorem d_M_times_74 : decode b_M_times 74 = .ok (.iload 7, 2) := by decide +kernel
theorem d_M_times_76 : decode b_M_times 76 = .ok (.ifCond .eq 7, 3) := by decide +kernel
theorem d_M_times_83 : decode b_M_times 83 = .ok (.iconst 0, 1) := by decide +kernel
theorem d_M_times_84 : decode b_M_times 84 = .ok (.putfield 80, 3) := by decide +kernel
theorem d_M_times_87 : decode b_M_times 87 = .ok (.aload_n 0, 1) := by decide +kernel
theorem d_M_times_88 : decode b_M_times 88 = .ok (.getfield 7, 3) := by decide +kernel
theorem d_M_times_91 : decode b_M_times 91 = .ok (.sipush 1024, 3) := by decide +kernel
theorem d_M_times_94 : decode b_M_times 94 = .ok (.idiv, 1) := by decide +kernel
theorem d_M_times_95 : decode b_M_times 95 = .ok (.iconst 4, 1) := by decide +kernel
theorem d_M_times_96 : decode b_M_times 96 = .ok (.irem, 1) := by decide +kernel
theorem d_M_times_97 : decode b_M_times 97 = .ok (.istore 8, 2) := by decide +kernel
theorem d_M_times_99 : decode b_M_times 99 = .ok (.iload 8, 2) := by decide +kernel
theorem d_M_times_101 : decode b_M_times 101 = .ok (.ifCond .ne 29, 3) := by decide +kernel
theorem d_M_times_130 : decode b_M_times 130 = .ok (.iload 8, 2) := by decide +kernel
theorem d_M_times_132 : decode b_M_times 132 = .ok (.iconst 1, 1) := by decide +kernel
theorem d_M_times_133 : decode b_M_times 133 = .ok (.if_icmp .ne 22, 3) := by decide +kernel
theorem d_M_times_155 : decode b_M_times 155 = .ok (.iload 8, 2) := by decide +kernel
theorem d_M_times_157 : decode b_M_times 157 = .ok (.iconst 2, 1) := by decide +kernel
theorem d_M_times_158 : decode b_M_times 158 = .ok (.if_icmp .ne 18, 3) := by decide +kernel
theorem d_M_times_176 : decode b_M_times 176 = .ok (.iconst 0, 1) := by decide +kernel
theorem d_M_times_161 : decode b_M_times 161 = .ok (.iload_n 2, 1) := by decide +kernel
theorem d_M_times_162 : decode b_M_times 162 = .ok (.ifCond .ne 14, 3) := by decide +kernel
theorem d_M_times_165 : decode b_M_times 165 = .ok (.aload_n 0, 1) := by decide +kernel
theorem d_M_times_166 : decode b_M_times 166 = .ok (.getfield 80, 3) := by decide +kernel
theorem d_M_times_169 : decode b_M_times 169 = .ok (.ifCond .eq 7, 3) := by decide +kernel
theorem d_M_times_172 : decode b_M_times 172 = .ok (.iconst 1, 1) := by decide +kernel
theorem d_M_times_173 : decode b_M_times 173 = .ok (.goto 4, 3) := by decide +kernel
theorem d_M_times_136 : decode b_M_times 136 = .ok (.iload_n 2, 1) := by decide +kernel
theorem d_M_times_137 : decode b_M_times 137 = .ok (.ifCond .eq 14, 3) := by decide +kernel
theorem d_M_times_151 : decode b_M_times 151 = .ok (.iconst 0, 1) := by decide +kernel
theorem d_M_times_152 : decode b_M_times 152 = .ok (.goto 25, 3) := by decide +kernel
theorem d_M_times_140 : decode b_M_times 140 = .ok (.aload_n 0, 1) := by decide +kernel
theorem d_M_times_141 : decode b_M_times 141 = .ok (.getfield 80, 3) := by decide +kernel
theorem d_M_times_144 : decode b_M_times 144 = .ok (.ifCond .eq 7, 3) := by decide +kernel
theorem d_M_times_147 : decode b_M_times 147 = .ok (.iconst 1, 1) := by decide +kernel
theorem d_M_times_148 : decode b_M_times 148 = .ok (.goto 29, 3) := by decide +kernel
theorem d_M_times_104 : decode b_M_times 104 = .ok (.iload 6, 2) := by decide +kernel
theorem d_M_times_106 : decode b_M_times 106 = .ok (.ifCond .eq 20, 3) := by decide +kernel
theorem d_M_times_126 : decode b_M_times 126 = .ok (.iconst 0, 1) := by decide +kernel
theorem d_M_times_127 : decode b_M_times 127 = .ok (.goto 50, 3) := by decide +kernel
theorem d_M_times_109 : decode b_M_times 109 = .ok (.iload 7, 2) := by decide +kernel
theorem d_M_times_111 : decode b_M_times 111 = .ok (.ifCond .ne 11, 3) := by decide +kernel
theorem d_M_times_122 : decode b_M_times 122 = .ok (.iconst 1, 1) := by decide +kernel
theorem d_M_times_123 : decode b_M_times 123 = .ok (.goto 54, 3) := by decide +kernel
theorem d_M_times_114 : decode b_M_times 114 = .ok (.aload_n 0, 1) := by decide +kernel
theorem d_M_times_115 : decode b_M_times 115 = .ok (.iload_n 3, 1) := by decide +kernel
theorem d_M_times_116 : decode b_M_times 116 = .ok (.invokevirtual 74, 3) := by decide +kernel
theorem d_M_times_119 : decode b_M_times 119 = .ok (.ifCond .eq 7, 3) := by decide +kernel
theorem d_M_times_177 : decode b_M_times 177 = .ok (.istore 9, 2) := by decide +kernel
theorem d_M_times_179 : decode b_M_times 179 = .ok (.iload 9, 2) := by decide +kernel
theorem d_M_times_181 : decode b_M_times 181 = .ok (.ifCond .eq 10, 3) := by decide +kernel
theorem d_M_times_191 : decode b_M_times 191 = .ok (.lload 4, 2) := by decide +kernel
theorem d_M_times_193 : decode b_M_times 193 = .ok (.lreturn, 1) := by decide +kernel
theorem d_M_times_184 : decode b_M_times 184 = .ok (.lload 4, 2) := by decide +kernel
theorem d_M_times_186 : decode b_M_times 186 = .ok (.lconst 1, 1) := by decide +kernel
theorem d_M_times_187 : decode b_M_times 187 = .ok (.ladd, 1) := by decide +kernel
theorem d_M_times_188 : decode b_M_times 188 = .ok (.goto 5, 3) := by decide +kernel
set_option maxHeartbeats 4000000 in
set_option maxRecDepth 100000 in
theorem c_M_times (l : Launch) (dC : Nat → ClassId) (dI : Nat → Nat → Nat) (kR : ClassId) (bM : Nat) (bR : Nat) (bT : Nat) (bF : Nat) (bN : Nat) (bP : Nat) (bQ : Nat) (sz : Nat) (cd : Int32) (wd : Int32) (al : Int32) (sz1 : Int32) (un : Int32) (mo : Bool) (tl : Int32) (sp : Bool) (tpo : Int32) (fro : Int64) (ly : Bool) (rb : Nat → Bool) (iq : Int32) (bs : Bool) (hz : okz sz1) : Met l y_M_times w_M_times ({ frames := 1, cells := 0, slots := 0, locals := 23 }) (cPc (dC, dI) [(kR, .boolean)] [.ref bM, .int iq, .int (b2i bs)] [(bM, .inr (3, [.int cd, .int wd, .ref bT, .ref bF, .int al, .ref bN, .ref bP, .ref bQ, .ref bR, .int sz1, .int un, .int (b2i mo), .int tl, .int (b2i sp), .int tpo, .long fro, .int (b2i ly)])), (bR, .inl (kR, 33000, .inl (fun k => b2i (rb k))))] sz) (va_Ql (fun (r : Int64) (_ : Unit) => r = (g_M_times wd sz1 un mo rb iq bs).1) (fun _ t => va_P (dC, dI) classes [(bM, .inr (3, [.int cd, .int wd, .ref bT, .ref bF, .int al, .ref bN, .ref bP, .ref bQ, .ref bR, .int sz1, .int un, .int (b2i mo), .int tl, .int (b2i sp), .int tpo, .long fro, .int (b2i ((g_M_times wd sz1 un mo rb iq bs).2))])), (bR, .inl (kR, 33000, .inl (fun k => b2i (rb k))))] t.heap ∧ va_D (va_A [(bM, .inr (3, [.int cd, .int wd, .ref bT, .ref bF, .int al, .ref bN, .ref bP, .ref bQ, .ref bR, .int sz1, .int un, .int (b2i mo), .int tl, .int (b2i sp), .int tpo, .long fro, .int (b2i ly)])), (bR, .inl (kR, 33000, .inl (fun k => b2i (rb k))))] sz) [(bM, .inr (3, [.int cd, .int wd, .ref bT, .ref bF, .int al, .ref bN, .ref bP, .ref bQ, .ref bR, .int sz1, .int un, .int (b2i mo), .int tl, .int (b2i sp), .int tpo, .long fro, .int (b2i ((g_M_times wd sz1 un mo rb iq bs).2))])), (bR, .inl (kR, 33000, .inl (fun k => b2i (rb k))))]) (va_A [(bM, .inr (3, [.int cd, .int wd, .ref bT, .ref bF, .int al, .ref bN, .ref bP, .ref bQ, .ref bR, .int sz1, .int un, .int (b2i mo), .int tl, .int (b2i sp), .int tpo, .long fro, .int (b2i ly)])), (bR, .inl (kR, 33000, .inl (fun k => b2i (rb k))))] sz)) 0 0 (va_A [(bM, .inr (3, [.int cd, .int wd, .ref bT, .ref bF, .int al, .ref bN, .ref bP, .ref bQ, .ref bR, .int sz1, .int un, .int (b2i mo), .int tl, .int (b2i sp), .int tpo, .long fro, .int (b2i ly)])), (bR, .inl (kR, 33000, .inl (fun k => b2i (rb k))))] sz) := by
  refine Met.ofW (cc := b_M_times) (maxL := 10) (ret := (some .long)) (by decide) rfl ?_
  intro p e s m args below meth c s₁ B hml hv
  obtain ⟨rfl, hsz, hP, hK, hD0, hnw⟩ := hv
  have hx := B.exec
  have hb := B.bytes
  have hr := B.returns
  have hts := atoms_spec (ws := w_M_times) B.pre
  have htA : ∀ w ∈ wAll, w.before _ s = true := fun w h => hts w (List.mem_cons_of_mem _ h)
  have hown : s.vm.findClass R_M = some m.cls := findClass_of_methodNamed B.named
  have hlocks := B.notSynchronized
  subst hsz
  have hD := hD0.self (sz := s.heap.size)
  generalize hAe : va_A [(bM, .inr (3, [.int cd, .int wd, .ref bT, .ref bF, .int al, .ref bN, .ref bP, .ref bQ, .ref bR, .int sz1, .int un, .int (b2i mo), .int tl, .int (b2i sp), .int tpo, .long fro, .int (b2i ly)])), (bR, .inl (kR, 33000, .inl (fun k => b2i (rb k))))] s.heap.size = A at hD ⊢
  have hA : ∀ q : Nat, s.heap.size ≤ q → A q := fun q h => by rw [← hAe]; exact Or.inr h
  have hS : va_S A s.heap s.heap [] := va_S.rf
  have hP : va_P (dC, dI) classes [(bM, .inr (3, [.int cd, .int wd, .ref bT, .ref bF, .int al, .ref bN, .ref bP, .ref bQ, .ref bR, .int sz1, .int un, .int (b2i mo), .int tl, .int (b2i sp), .int tpo, .long fro, .int (b2i ly)])), (bR, .inl (kR, 33000, .inl (fun k => b2i (rb k))))] s.heap := hP
  obtain ⟨H, eH⟩ : ∃ z, z = s.heap := ⟨_, rfl⟩
  rw [← eH] at hP
  have hS : va_S A s.heap H [] := by rw [eH]; exact hS
  rw [← eH]
  generalize ([] : List Loc) = locs at hS ⊢
  have hl := lv_entry ([.ref bM, .int iq, .int (b2i bs)]) (n := 10) (Nat.le_of_ble_eq_true rfl)
  rw [lg_entry_eq]
  generalize (lg_sl ([.ref bM, .int iq, .int (b2i bs)]) ++ List.replicate (10 - (lg_sl ([.ref bM, .int iq, .int (b2i bs)])).length) Slot.unset).toArray = ls at hl ⊢
  have hl : lv_has ls 10 [(0, .ref bM), (1, .int iq), (2, .int (b2i bs))] := hl
  refine lv_iload_n hx hb d_M_times_0 rfl (lv_at hl 1 rfl) ?_
  refine lv_aload_n hx hb d_M_times_1 rfl (lv_at hl 0 rfl) ?_
  refine va_get (D := (dC, dI)) (ci := 3) (v := .int un) (C := R_M) (T := F_M) (N := 17) hx hb htA in_M hown hK hP 0 rfl rfl 10 (by decide) (htA _ k_277) (fun _ h9 => h9) rfl d_M_times_2 ?_
  refine lv_isub hx hb d_M_times_5 ?_
  refine lv_istore_n (lv' := [(3, .int (iq - un)), (0, .ref bM), (1, .int iq), (2, .int (b2i bs))]) hx hb d_M_times_6 rfl hl (by decide) rfl (fun ls hl => ?_)
  refine lv_lconst (v := 0) hx hb d_M_times_7 (by decide) ?_
  refine lv_lstore (lv' := [(4, .long 0), (3, .int (iq - un)), (0, .ref bM), (1, .int iq), (2, .int (b2i bs))]) hx hb d_M_times_8 hl (by decide) rfl (fun ls hl => ?_)
  refine lv_bipush (v := 63) hx hb d_M_times_10 (by decide) ?_
  refine lv_istore (lv' := [(6, .int 63), (4, .long 0), (3, .int (iq - un)), (0, .ref bM), (1, .int iq), (2, .int (b2i bs))]) hx hb d_M_times_12 hl (by decide) rfl (fun ls hl => ?_)
  refine loop_cut (S := Int64 × Int32) (nx_M_times_14 sz1 un rb iq) 64 (0, 63) (M_times_end sz1 un rb iq) 0 0 (fun (x : Int64 × Int32) (H : Heap) (locs : List Loc) (ls : Array Slot) => va_P (dC, dI) classes [(bM, .inr (3, [.int cd, .int wd, .ref bT, .ref bF, .int al, .ref bN, .ref bP, .ref bQ, .ref bR, .int sz1, .int un, .int (b2i mo), .int tl, .int (b2i sp), .int tpo, .long fro, .int (b2i ly)])), (bR, .inl (kR, 33000, .inl (fun k => b2i (rb k))))] H ∧ va_D A [(bM, .inr (3, [.int cd, .int wd, .ref bT, .ref bF, .int al, .ref bN, .ref bP, .ref bQ, .ref bR, .int sz1, .int un, .int (b2i mo), .int tl, .int (b2i sp), .int tpo, .long fro, .int (b2i ly)])), (bR, .inl (kR, 33000, .inl (fun k => b2i (rb k))))] ∧ va_S A s.heap H locs ∧ lv_has ls 10 [(0, .ref bM), (1, .int iq), (2, .int (b2i bs)), (3, .int (iq - un)), (4, .long x.1), (6, .int x.2)]) (fun x ls => F0 m 14 ls []) (fun x ls => F0 m 50 ls []) ?_ ?_ H locs ls ⟨hP.sub [0, 1] rfl, hD.sub [0, 1] (by decide) rfl, hS, lv_sub hl [3, 4, 5, 2, 1, 0] rfl⟩
  · skip
    rintro ⟨v14_0, v14_1⟩ hex hbk H locs ls ⟨hP, hD, hS, hl⟩
    have hP : va_P (dC, dI) classes [(bM, .inr (3, [.int cd, .int wd, .ref bT, .ref bF, .int al, .ref bN, .ref bP, .ref bQ, .ref bR, .int sz1, .int un, .int (b2i mo), .int tl, .int (b2i sp), .int tpo, .long fro, .int (b2i ly)])), (bR, .inl (kR, 33000, .inl (fun k => b2i (rb k))))] H := hP
    have hD : va_D A [(bM, .inr (3, [.int cd, .int wd, .ref bT, .ref bF, .int al, .ref bN, .ref bP, .ref bQ, .ref bR, .int sz1, .int un, .int (b2i mo), .int tl, .int (b2i sp), .int tpo, .long fro, .int (b2i ly)])), (bR, .inl (kR, 33000, .inl (fun k => b2i (rb k))))] := hD
    have hl : lv_has ls 10 [(0, .ref bM), (1, .int iq), (2, .int (b2i bs)), (3, .int (iq - un)), (4, .long v14_0), (6, .int v14_1)] := hl
    refine lv_iload hx hb d_M_times_14 (lv_at hl 5 rfl) ?_
    refine lv_if_lt (tgt := 50) hx hb d_M_times_16 (by decide) (fun c_16 => ?_) (fun c_16 => ?_)
    · skip
      exact hex (by clear hP hD hl hS; unfold nx_M_times_14; (try dsimp only); rw [if_pos c_16]) H locs ls ⟨hP.sub [0, 1] rfl, hD.sub [0, 1] (by decide) rfl, hS, lv_sub hl [0, 1, 2, 3, 4, 5] rfl⟩
    · skip
      refine lv_ldc2 (v := 2) hx hb hown (htA _ k_278) d_M_times_19 ?_
      refine lv_lload hx hb d_M_times_22 (lv_at hl 4 rfl) ?_
      refine lv_lmul hx hb d_M_times_24 ?_
      refine lv_aload_n hx hb d_M_times_25 rfl (lv_at hl 0 rfl) ?_
      refine lv_iload_n hx hb d_M_times_26 rfl (lv_at hl 3 rfl) ?_
      refine lv_iload hx hb d_M_times_27 (lv_at hl 5 rfl) ?_
      refine lv_iadd hx hb d_M_times_29 ?_
      have hPc := hP.sub (ws' := [(bM, .inr (3, [.int cd, .int wd, .ref bT, .ref bF, .int al, .ref bN, .ref bP, .ref bQ, .ref bR, .int sz1, .int un, .int (b2i mo), .int tl, .int (b2i sp), .int tpo, .long fro, .int (b2i ly)])), (bR, .inl (kR, 33000, .inl (fun k => b2i (rb k))))]) [0, 1] rfl
      have hDc := hD.sub (ws' := [(bM, .inr (3, [.int cd, .int wd, .ref bT, .ref bF, .int al, .ref bN, .ref bP, .ref bQ, .ref bR, .int sz1, .int un, .int (b2i mo), .int tl, .int (b2i sp), .int tpo, .long fro, .int (b2i ly)])), (bR, .inl (kR, 33000, .inl (fun k => b2i (rb k))))]) [0, 1] (by decide) rfl
      have hKc := hK.sub (tys' := [(kR, .boolean)]) [0] rfl
      have hFc := va_free (wc := [(bM, .inr (3, [.int cd, .int wd, .ref bT, .ref bF, .int al, .ref bN, .ref bP, .ref bQ, .ref bR, .int sz1, .int un, .int (b2i mo), .int tl, .int (b2i sp), .int tpo, .long fro, .int (b2i ly)])), (bR, .inl (kR, 33000, .inl (fun k => b2i (rb k))))]) hD hS hA [0, 1] rfl
      refine cc_i (va_runV (As := [.int ((iq - un) + v14_1)]) (rest := [.long (2 * v14_0)]) ⟨hx, hb, hml, hown, htA⟩ (c_M_bit l dC dI kR bM bR bT bF bN bP bQ H.size cd wd al sz1 un mo tl sp tpo fro ly rb ((iq - un) + v14_1) (by assumption)) (cwV 1 htA (gi_V k_279 k_280 k_281 k_263 (gi_code k_273)) rfl rfl rfl (by decide +kernel) ⟨Nat.le_of_ble_eq_true rfl, Nat.le_of_ble_eq_true rfl⟩) (pre_V hnw hPc hKc hDc (ci := 3) (q0 := 0) rfl rfl) rfl rfl hl.1 rfl (lv_room (Nat.le_of_ble_eq_true rfl)) d_M_times_30 ⟨Nat.le_of_ble_eq_true rfl, Nat.le_of_ble_eq_true rfl⟩) hS hFc hP hD [0, 1] [] (wr := []) rfl rfl (by decide) (by decide) (fun H locs hP hD hS => ?_)
      have hP : va_P (dC, dI) classes [(bM, .inr (3, [.int cd, .int wd, .ref bT, .ref bF, .int al, .ref bN, .ref bP, .ref bQ, .ref bR, .int sz1, .int un, .int (b2i mo), .int tl, .int (b2i sp), .int tpo, .long fro, .int (b2i ly)])), (bR, .inl (kR, 33000, .inl (fun k => b2i (rb k))))] H := hP
      have hD : va_D A [(bM, .inr (3, [.int cd, .int wd, .ref bT, .ref bF, .int al, .ref bN, .ref bP, .ref bQ, .ref bR, .int sz1, .int un, .int (b2i mo), .int tl, .int (b2i sp), .int tpo, .long fro, .int (b2i ly)])), (bR, .inl (kR, 33000, .inl (fun k => b2i (rb k))))] := hD
      refine cut_join (X := Int64) 0 0 (fun (x : Int64) (H : Heap) (locs : List Loc) (ls : Array Slot) => (if (g_M_bit sz1 rb ((iq - un) + v14_1)) = true then 1 else 0) = x ∧ va_P (dC, dI) classes [(bM, .inr (3, [.int cd, .int wd, .ref bT, .ref bF, .int al, .ref bN, .ref bP, .ref bQ, .ref bR, .int sz1, .int un, .int (b2i mo), .int tl, .int (b2i sp), .int tpo, .long fro, .int (b2i ly)])), (bR, .inl (kR, 33000, .inl (fun k => b2i (rb k))))] H ∧ va_D A [(bM, .inr (3, [.int cd, .int wd, .ref bT, .ref bF, .int al, .ref bN, .ref bP, .ref bQ, .ref bR, .int sz1, .int un, .int (b2i mo), .int tl, .int (b2i sp), .int tpo, .long fro, .int (b2i ly)])), (bR, .inl (kR, 33000, .inl (fun k => b2i (rb k))))] ∧ va_S A s.heap H locs ∧ lv_has ls 10 [(0, .ref bM), (1, .int iq), (2, .int (b2i bs)), (3, .int (iq - un)), (4, .long v14_0), (6, .int v14_1)]) (fun x ls => F0 m 41 ls [.long x, .long (2 * v14_0)]) ?_ (fun J41 => ?_)
      · skip
        rintro j41_0 H locs ls ⟨ej41_0, hP, hD, hS, hl⟩
        have ej41_0 : (if (g_M_bit sz1 rb ((iq - un) + v14_1)) = true then 1 else 0) = j41_0 := ej41_0
        have hP : va_P (dC, dI) classes [(bM, .inr (3, [.int cd, .int wd, .ref bT, .ref bF, .int al, .ref bN, .ref bP, .ref bQ, .ref bR, .int sz1, .int un, .int (b2i mo), .int tl, .int (b2i sp), .int tpo, .long fro, .int (b2i ly)])), (bR, .inl (kR, 33000, .inl (fun k => b2i (rb k))))] H := hP
        have hD : va_D A [(bM, .inr (3, [.int cd, .int wd, .ref bT, .ref bF, .int al, .ref bN, .ref bP, .ref bQ, .ref bR, .int sz1, .int un, .int (b2i mo), .int tl, .int (b2i sp), .int tpo, .long fro, .int (b2i ly)])), (bR, .inl (kR, 33000, .inl (fun k => b2i (rb k))))] := hD
        have hl : lv_has ls 10 [(0, .ref bM), (1, .int iq), (2, .int (b2i bs)), (3, .int (iq - un)), (4, .long v14_0), (6, .int v14_1)] := hl
        refine lv_ladd hx hb d_M_times_41 ?_
        refine lv_lstore (lv' := [(4, .long ((2 * v14_0) + j41_0)), (0, .ref bM), (1, .int iq), (2, .int (b2i bs)), (3, .int (iq - un)), (6, .int v14_1)]) hx hb d_M_times_42 hl (by decide) rfl (fun ls hl => ?_)
        refine lv_iinc (v := (v14_1 + (-1))) (lv' := [(6, .int (v14_1 + (-1))), (4, .long ((2 * v14_0) + j41_0)), (0, .ref bM), (1, .int iq), (2, .int (b2i bs)), (3, .int (iq - un))]) hx hb d_M_times_44 hl (k := 5) rfl rfl (by decide) rfl (fun ls hl => ?_)
        refine lv_goto (tgt := 14) hx hb d_M_times_47 (by decide) ?_
        exact hbk (((2 * v14_0) + j41_0), (v14_1 + (-1))) (by clear hP hD hl hS; subst ej41_0; unfold nx_M_times_14; (try dsimp only); rw [if_neg c_16]) H locs ls ⟨hP.sub [0, 1] rfl, hD.sub [0, 1] (by decide) rfl, hS, lv_sub hl [2, 3, 4, 5, 1, 0] rfl⟩
      · skip
        refine lv_if_eq (tgt := 40) hx hb d_M_times_33 (by decide) (fun c_33 => ?_) (fun c_33 => ?_)
        · skip
          have c_33 : ¬ (g_M_bit sz1 rb ((iq - un) + v14_1)) = true := b2i_z c_33
          refine lv_lconst (v := 0) hx hb d_M_times_40 (by decide) ?_
          exact J41 (0) H locs ls ⟨by clear hP hD hl hS; (try dsimp only); rw [if_neg c_33], hP.sub [0, 1] rfl, hD.sub [0, 1] (by decide) rfl, hS, lv_sub hl [0, 1, 2, 3, 4, 5] rfl⟩
        · skip
          have c_33 : (g_M_bit sz1 rb ((iq - un) + v14_1)) = true := b2i_nz c_33
          refine lv_lconst (v := 1) hx hb d_M_times_36 (by decide) ?_
          refine lv_goto (tgt := 41) hx hb d_M_times_37 (by decide) ?_
          exact J41 (1) H locs ls ⟨by clear hP hD hl hS; (try dsimp only); rw [if_pos c_33], hP.sub [0, 1] rfl, hD.sub [0, 1] (by decide) rfl, hS, lv_sub hl [0, 1, 2, 3, 4, 5] rfl⟩
  · skip
    rintro ⟨v14_0, v14_1⟩ H locs ls ev ⟨hP, hD, hS, hl⟩
    have ev14_0 : (lrun (nx_M_times_14 sz1 un rb iq) 64 (0, 63)).1 = v14_0 := by rw [← ev]
    have ev14_1 : (lrun (nx_M_times_14 sz1 un rb iq) 64 (0, 63)).2 = v14_1 := by rw [← ev]
    clear ev
    have hP : va_P (dC, dI) classes [(bM, .inr (3, [.int cd, .int wd, .ref bT, .ref bF, .int al, .ref bN, .ref bP, .ref bQ, .ref bR, .int sz1, .int un, .int (b2i mo), .int tl, .int (b2i sp), .int tpo, .long fro, .int (b2i ly)])), (bR, .inl (kR, 33000, .inl (fun k => b2i (rb k))))] H := hP
    have hD : va_D A [(bM, .inr (3, [.int cd, .int wd, .ref bT, .ref bF, .int al, .ref bN, .ref bP, .ref bQ, .ref bR, .int sz1, .int un, .int (b2i mo), .int tl, .int (b2i sp), .int tpo, .long fro, .int (b2i ly)])), (bR, .inl (kR, 33000, .inl (fun k => b2i (rb k))))] := hD
    have hl : lv_has ls 10 [(0, .ref bM), (1, .int iq), (2, .int (b2i bs)), (3, .int (iq - un)), (4, .long v14_0), (6, .int v14_1)] := hl
    refine lv_aload_n hx hb d_M_times_50 rfl (lv_at hl 0 rfl) ?_
    refine lv_iload_n hx hb d_M_times_51 rfl (lv_at hl 3 rfl) ?_
    refine lv_iconst (v := 1) hx hb d_M_times_52 (by decide) ?_
    refine lv_isub hx hb d_M_times_53 ?_
    have hPc := hP.sub (ws' := [(bM, .inr (3, [.int cd, .int wd, .ref bT, .ref bF, .int al, .ref bN, .ref bP, .ref bQ, .ref bR, .int sz1, .int un, .int (b2i mo), .int tl, .int (b2i sp), .int tpo, .long fro, .int (b2i ly)])), (bR, .inl (kR, 33000, .inl (fun k => b2i (rb k))))]) [0, 1] rfl
    have hDc := hD.sub (ws' := [(bM, .inr (3, [.int cd, .int wd, .ref bT, .ref bF, .int al, .ref bN, .ref bP, .ref bQ, .ref bR, .int sz1, .int un, .int (b2i mo), .int tl, .int (b2i sp), .int tpo, .long fro, .int (b2i ly)])), (bR, .inl (kR, 33000, .inl (fun k => b2i (rb k))))]) [0, 1] (by decide) rfl
    have hKc := hK.sub (tys' := [(kR, .boolean)]) [0] rfl
    have hFc := va_free (wc := [(bM, .inr (3, [.int cd, .int wd, .ref bT, .ref bF, .int al, .ref bN, .ref bP, .ref bQ, .ref bR, .int sz1, .int un, .int (b2i mo), .int tl, .int (b2i sp), .int tpo, .long fro, .int (b2i ly)])), (bR, .inl (kR, 33000, .inl (fun k => b2i (rb k))))]) hD hS hA [0, 1] rfl
    refine cc_i (va_runV (As := [.int ((iq - un) - 1)]) (rest := []) ⟨hx, hb, hml, hown, htA⟩ (c_M_bit l dC dI kR bM bR bT bF bN bP bQ H.size cd wd al sz1 un mo tl sp tpo fro ly rb ((iq - un) - 1) (by assumption)) (cwV 1 htA (gi_V k_279 k_280 k_281 k_263 (gi_code k_273)) rfl rfl rfl (by decide +kernel) ⟨Nat.le_of_ble_eq_true rfl, Nat.le_of_ble_eq_true rfl⟩) (pre_V hnw hPc hKc hDc (ci := 3) (q0 := 0) rfl rfl) rfl rfl hl.1 rfl (lv_room (Nat.le_of_ble_eq_true rfl)) d_M_times_54 ⟨Nat.le_of_ble_eq_true rfl, Nat.le_of_ble_eq_true rfl⟩) hS hFc hP hD [0, 1] [] (wr := []) rfl rfl (by decide) (by decide) (fun H locs hP hD hS => ?_)
    have hP : va_P (dC, dI) classes [(bM, .inr (3, [.int cd, .int wd, .ref bT, .ref bF, .int al, .ref bN, .ref bP, .ref bQ, .ref bR, .int sz1, .int un, .int (b2i mo), .int tl, .int (b2i sp), .int tpo, .long fro, .int (b2i ly)])), (bR, .inl (kR, 33000, .inl (fun k => b2i (rb k))))] H := hP
    have hD : va_D A [(bM, .inr (3, [.int cd, .int wd, .ref bT, .ref bF, .int al, .ref bN, .ref bP, .ref bQ, .ref bR, .int sz1, .int un, .int (b2i mo), .int tl, .int (b2i sp), .int tpo, .long fro, .int (b2i ly)])), (bR, .inl (kR, 33000, .inl (fun k => b2i (rb k))))] := hD
    refine lv_istore (lv' := [(6, .int (b2i (g_M_bit sz1 rb ((iq - un) - 1)))), (0, .ref bM), (1, .int iq), (2, .int (b2i bs)), (3, .int (iq - un)), (4, .long v14_0)]) hx hb d_M_times_57 hl (by decide) rfl (fun ls hl => ?_)
    refine lv_aload_n hx hb d_M_times_59 rfl (lv_at hl 1 rfl) ?_
    refine lv_iload_n hx hb d_M_times_60 rfl (lv_at hl 4 rfl) ?_
    refine lv_iconst (v := 1) hx hb d_M_times_61 (by decide) ?_
    refine lv_isub hx hb d_M_times_62 ?_
    have hPc := hP.sub (ws' := [(bM, .inr (3, [.int cd, .int wd, .ref bT, .ref bF, .int al, .ref bN, .ref bP, .ref bQ, .ref bR, .int sz1, .int un, .int (b2i mo), .int tl, .int (b2i sp), .int tpo, .long fro, .int (b2i ly)])), (bR, .inl (kR, 33000, .inl (fun k => b2i (rb k))))]) [0, 1] rfl
    have hDc := hD.sub (ws' := [(bM, .inr (3, [.int cd, .int wd, .ref bT, .ref bF, .int al, .ref bN, .ref bP, .ref bQ, .ref bR, .int sz1, .int un, .int (b2i mo), .int tl, .int (b2i sp), .int tpo, .long fro, .int (b2i ly)])), (bR, .inl (kR, 33000, .inl (fun k => b2i (rb k))))]) [0, 1] (by decide) rfl
    have hKc := hK.sub (tys' := [(kR, .boolean)]) [0] rfl
    have hFc := va_free (wc := [(bM, .inr (3, [.int cd, .int wd, .ref bT, .ref bF, .int al, .ref bN, .ref bP, .ref bQ, .ref bR, .int sz1, .int un, .int (b2i mo), .int tl, .int (b2i sp), .int tpo, .long fro, .int (b2i ly)])), (bR, .inl (kR, 33000, .inl (fun k => b2i (rb k))))]) hD hS hA [0, 1] rfl
    refine cc_i (va_runV (As := [.int ((iq - un) - 1)]) (rest := []) ⟨hx, hb, hml, hown, htA⟩ (c_M_rest l dC dI kR bM bR bT bF bN bP bQ H.size cd wd al sz1 un mo tl sp tpo fro ly rb ((iq - un) - 1) (by assumption)) (cwV 1 htA (gi_V k_282 k_283 k_284 k_263 (gi_code k_276)) rfl rfl rfl (by decide +kernel) ⟨Nat.le_of_ble_eq_true rfl, Nat.le_of_ble_eq_true rfl⟩) (pre_V hnw hPc hKc hDc (ci := 3) (q0 := 0) rfl rfl) rfl rfl hl.1 rfl (lv_room (Nat.le_of_ble_eq_true rfl)) d_M_times_63 ⟨Nat.le_of_ble_eq_true rfl, Nat.le_of_ble_eq_true rfl⟩) hS hFc hP hD [0, 1] [] (wr := []) rfl rfl (by decide) (by decide) (fun H locs hP hD hS => ?_)
    have hP : va_P (dC, dI) classes [(bM, .inr (3, [.int cd, .int wd, .ref bT, .ref bF, .int al, .ref bN, .ref bP, .ref bQ, .ref bR, .int sz1, .int un, .int (b2i mo), .int tl, .int (b2i sp), .int tpo, .long fro, .int (b2i ly)])), (bR, .inl (kR, 33000, .inl (fun k => b2i (rb k))))] H := hP
    have hD : va_D A [(bM, .inr (3, [.int cd, .int wd, .ref bT, .ref bF, .int al, .ref bN, .ref bP, .ref bQ, .ref bR, .int sz1, .int un, .int (b2i mo), .int tl, .int (b2i sp), .int tpo, .long fro, .int (b2i ly)])), (bR, .inl (kR, 33000, .inl (fun k => b2i (rb k))))] := hD
    refine lv_istore (lv' := [(7, .int (b2i (g_M_rest sz1 mo rb ((iq - un) - 1)))), (6, .int (b2i (g_M_bit sz1 rb ((iq - un) - 1)))), (0, .ref bM), (1, .int iq), (2, .int (b2i bs)), (3, .int (iq - un)), (4, .long v14_0)]) hx hb d_M_times_66 hl (by decide) rfl (fun ls hl => ?_)
    refine lv_aload_n hx hb d_M_times_68 rfl (lv_at hl 2 rfl) ?_
    refine lv_iload hx hb d_M_times_69 (lv_at hl 1 rfl) ?_
    refine cut_join (X := Bool) 0 0 (fun (x : Bool) (H : Heap) (locs : List Loc) (ls : Array Slot) => (if (g_M_bit sz1 rb ((iq - un) - 1)) = true then true else if (g_M_rest sz1 mo rb ((iq - un) - 1)) = true then true else false) = x ∧ va_P (dC, dI) classes [(bM, .inr (3, [.int cd, .int wd, .ref bT, .ref bF, .int al, .ref bN, .ref bP, .ref bQ, .ref bR, .int sz1, .int un, .int (b2i mo), .int tl, .int (b2i sp), .int tpo, .long fro, .int (b2i ly)])), (bR, .inl (kR, 33000, .inl (fun k => b2i (rb k))))] H ∧ va_D A [(bM, .inr (3, [.int cd, .int wd, .ref bT, .ref bF, .int al, .ref bN, .ref bP, .ref bQ, .ref bR, .int sz1, .int un, .int (b2i mo), .int tl, .int (b2i sp), .int tpo, .long fro, .int (b2i ly)])), (bR, .inl (kR, 33000, .inl (fun k => b2i (rb k))))] ∧ va_S A s.heap H locs ∧ lv_has ls 10 [(0, .ref bM), (1, .int iq), (2, .int (b2i bs)), (3, .int (iq - un)), (4, .long v14_0), (6, .int (b2i (g_M_bit sz1 rb ((iq - un) - 1)))), (7, .int (b2i (g_M_rest sz1 mo rb ((iq - un) - 1))))]) (fun x ls => F0 m 84 ls [.int (b2i x), .ref bM]) ?_ (fun J84 => ?_)
    · skip
      rintro j84_0 H locs ls ⟨ej84_0, hP, hD, hS, hl⟩
      have ej84_0 : (if (g_M_bit sz1 rb ((iq - un) - 1)) = true then true else if (g_M_rest sz1 mo rb ((iq - un) - 1)) = true then true else false) = j84_0 := ej84_0
      have hP : va_P (dC, dI) classes [(bM, .inr (3, [.int cd, .int wd, .ref bT, .ref bF, .int al, .ref bN, .ref bP, .ref bQ, .ref bR, .int sz1, .int un, .int (b2i mo), .int tl, .int (b2i sp), .int tpo, .long fro, .int (b2i ly)])), (bR, .inl (kR, 33000, .inl (fun k => b2i (rb k))))] H := hP
      have hD : va_D A [(bM, .inr (3, [.int cd, .int wd, .ref bT, .ref bF, .int al, .ref bN, .ref bP, .ref bQ, .ref bR, .int sz1, .int un, .int (b2i mo), .int tl, .int (b2i sp), .int tpo, .long fro, .int (b2i ly)])), (bR, .inl (kR, 33000, .inl (fun k => b2i (rb k))))] := hD
      have hl : lv_has ls 10 [(0, .ref bM), (1, .int iq), (2, .int (b2i bs)), (3, .int (iq - un)), (4, .long v14_0), (6, .int (b2i (g_M_bit sz1 rb ((iq - un) - 1)))), (7, .int (b2i (g_M_rest sz1 mo rb ((iq - un) - 1))))] := hl
      refine va_put (D := (dC, dI)) (ci := 3) (v := .int (b2i j84_0)) (ty := .boolean) (C := R_M) (T := F_M) (N := 17) hx hb htA in_M t_M t_M_ok n_M hown hK hP hD hS 0 rfl rfl 16 (by decide) (htA _ k_285) (fun _ h9 => h9) rfl (by decide +kernel) (by first | exact nar_b2i _ | rfl) (by first | exact fit_b2i _ | rfl) (Nat.le_of_ble_eq_true rfl) d_M_times_84 (fun H locs hP hD hS => ?_)
      have hP : va_P (dC, dI) classes [(bM, .inr (3, [.int cd, .int wd, .ref bT, .ref bF, .int al, .ref bN, .ref bP, .ref bQ, .ref bR, .int sz1, .int un, .int (b2i mo), .int tl, .int (b2i sp), .int tpo, .long fro, .int (b2i j84_0)])), (bR, .inl (kR, 33000, .inl (fun k => b2i (rb k))))] H := hP
      have hD : va_D A [(bM, .inr (3, [.int cd, .int wd, .ref bT, .ref bF, .int al, .ref bN, .ref bP, .ref bQ, .ref bR, .int sz1, .int un, .int (b2i mo), .int tl, .int (b2i sp), .int tpo, .long fro, .int (b2i j84_0)])), (bR, .inl (kR, 33000, .inl (fun k => b2i (rb k))))] := hD
      refine lv_aload_n hx hb d_M_times_87 rfl (lv_at hl 0 rfl) ?_
      refine va_get (D := (dC, dI)) (ci := 3) (v := .int wd) (C := R_M) (T := F_M) (N := 17) hx hb htA in_M hown hK hP 0 rfl rfl 1 (by decide) (htA _ k_244) (fun _ h9 => h9) rfl d_M_times_88 ?_
      refine lv_sipush (v := 1024) hx hb d_M_times_91 (by decide) ?_
      refine lv_idiv hx hb d_M_times_94 (by decide) ?_
      refine lv_iconst (v := 4) hx hb d_M_times_95 (by decide) ?_
      refine lv_irem hx hb d_M_times_96 (by decide) ?_
      refine lv_istore (lv' := [(8, .int ((wd / 1024) - (wd / 1024) / 4 * 4)), (0, .ref bM), (1, .int iq), (2, .int (b2i bs)), (3, .int (iq - un)), (4, .long v14_0), (6, .int (b2i (g_M_bit sz1 rb ((iq - un) - 1)))), (7, .int (b2i (g_M_rest sz1 mo rb ((iq - un) - 1))))]) hx hb d_M_times_97 hl (by decide) rfl (fun ls hl => ?_)
      refine lv_iload hx hb d_M_times_99 (lv_at hl 0 rfl) ?_
      refine cut_join (X := Bool) 0 0 (fun (x : Bool) (H : Heap) (locs : List Loc) (ls : Array Slot) => (if ((wd / 1024) - (wd / 1024) / 4 * 4) = 0 then if (g_M_bit sz1 rb ((iq - un) - 1)) = true then if (g_M_rest sz1 mo rb ((iq - un) - 1)) = true then true else if (g_M_bit sz1 rb (iq - un)) = true then true else false else false else if ((wd / 1024) - (wd / 1024) / 4 * 4) = 1 then if bs = true then if j84_0 = true then true else false else false else if ((wd / 1024) - (wd / 1024) / 4 * 4) = 2 then if bs = true then false else if j84_0 = true then true else false else false) = x ∧ va_P (dC, dI) classes [(bM, .inr (3, [.int cd, .int wd, .ref bT, .ref bF, .int al, .ref bN, .ref bP, .ref bQ, .ref bR, .int sz1, .int un, .int (b2i mo), .int tl, .int (b2i sp), .int tpo, .long fro, .int (b2i j84_0)])), (bR, .inl (kR, 33000, .inl (fun k => b2i (rb k))))] H ∧ va_D A [(bM, .inr (3, [.int cd, .int wd, .ref bT, .ref bF, .int al, .ref bN, .ref bP, .ref bQ, .ref bR, .int sz1, .int un, .int (b2i mo), .int tl, .int (b2i sp), .int tpo, .long fro, .int (b2i j84_0)])), (bR, .inl (kR, 33000, .inl (fun k => b2i (rb k))))] ∧ va_S A s.heap H locs ∧ lv_has ls 10 [(0, .ref bM), (1, .int iq), (2, .int (b2i bs)), (3, .int (iq - un)), (4, .long v14_0), (6, .int (b2i (g_M_bit sz1 rb ((iq - un) - 1)))), (7, .int (b2i (g_M_rest sz1 mo rb ((iq - un) - 1)))), (8, .int ((wd / 1024) - (wd / 1024) / 4 * 4))]) (fun x ls => F0 m 177 ls [.int (b2i x)]) ?_ (fun J177 => ?_)
      · skip
        rintro j177_0 H locs ls ⟨ej177_0, hP, hD, hS, hl⟩
        have ej177_0 : (if ((wd / 1024) - (wd / 1024) / 4 * 4) = 0 then if (g_M_bit sz1 rb ((iq - un) - 1)) = true then if (g_M_rest sz1 mo rb ((iq - un) - 1)) = true then true else if (g_M_bit sz1 rb (iq - un)) = true then true else false else false else if ((wd / 1024) - (wd / 1024) / 4 * 4) = 1 then if bs = true then if j84_0 = true then true else false else false else if ((wd / 1024) - (wd / 1024) / 4 * 4) = 2 then if bs = true then false else if j84_0 = true then true else false else false) = j177_0 := ej177_0
        have hP : va_P (dC, dI) classes [(bM, .inr (3, [.int cd, .int wd, .ref bT, .ref bF, .int al, .ref bN, .ref bP, .ref bQ, .ref bR, .int sz1, .int un, .int (b2i mo), .int tl, .int (b2i sp), .int tpo, .long fro, .int (b2i j84_0)])), (bR, .inl (kR, 33000, .inl (fun k => b2i (rb k))))] H := hP
        have hD : va_D A [(bM, .inr (3, [.int cd, .int wd, .ref bT, .ref bF, .int al, .ref bN, .ref bP, .ref bQ, .ref bR, .int sz1, .int un, .int (b2i mo), .int tl, .int (b2i sp), .int tpo, .long fro, .int (b2i j84_0)])), (bR, .inl (kR, 33000, .inl (fun k => b2i (rb k))))] := hD
        have hl : lv_has ls 10 [(0, .ref bM), (1, .int iq), (2, .int (b2i bs)), (3, .int (iq - un)), (4, .long v14_0), (6, .int (b2i (g_M_bit sz1 rb ((iq - un) - 1)))), (7, .int (b2i (g_M_rest sz1 mo rb ((iq - un) - 1)))), (8, .int ((wd / 1024) - (wd / 1024) / 4 * 4))] := hl
        refine lv_istore (lv' := [(9, .int (b2i j177_0)), (0, .ref bM), (1, .int iq), (2, .int (b2i bs)), (3, .int (iq - un)), (4, .long v14_0), (6, .int (b2i (g_M_bit sz1 rb ((iq - un) - 1)))), (7, .int (b2i (g_M_rest sz1 mo rb ((iq - un) - 1)))), (8, .int ((wd / 1024) - (wd / 1024) / 4 * 4))]) hx hb d_M_times_177 hl (by decide) rfl (fun ls hl => ?_)
        refine lv_iload hx hb d_M_times_179 (lv_at hl 0 rfl) ?_
        refine lv_if_eq (tgt := 191) hx hb d_M_times_181 (by decide) (fun c_181 => ?_) (fun c_181 => ?_)
        · skip
          have c_181 : ¬ j177_0 = true := b2i_z c_181
          refine lv_lload hx hb d_M_times_191 (lv_at hl 5 rfl) ?_
          have hE : g_M_times wd sz1 un mo rb iq bs = (v14_0, j84_0) := by clear hP hD hl hS; subst ej177_0; subst ej84_0; subst ev14_1; subst ev14_0; unfold g_M_times; (try dsimp only); rw [if_neg c_181]
          have hP9 : va_P (dC, dI) classes [(bM, .inr (3, [.int cd, .int wd, .ref bT, .ref bF, .int al, .ref bN, .ref bP, .ref bQ, .ref bR, .int sz1, .int un, .int (b2i mo), .int tl, .int (b2i sp), .int tpo, .long fro, .int (b2i ((g_M_times wd sz1 un mo rb iq bs).2))])), (bR, .inl (kR, 33000, .inl (fun k => b2i (rb k))))] H := by rw [hE]; exact hP.sub [0, 1] rfl
          have hD9 : va_D A [(bM, .inr (3, [.int cd, .int wd, .ref bT, .ref bF, .int al, .ref bN, .ref bP, .ref bQ, .ref bR, .int sz1, .int un, .int (b2i mo), .int tl, .int (b2i sp), .int tpo, .long fro, .int (b2i ((g_M_times wd sz1 un mo rb iq bs).2))])), (bR, .inl (kR, 33000, .inl (fun k => b2i (rb k))))] := by rw [hE]; exact hD.sub [0, 1] (by decide) rfl
          exact W.lret (v := v14_0) hx hb hr (fun t ht hW => ⟨⟨v14_0, (), rfl, by rw [hE], by rw [ht]; exact hP9, hD9⟩, hS.F ht⟩) hS.2.2 d_M_times_193
        · skip
          have c_181 : j177_0 = true := b2i_nz c_181
          refine lv_lload hx hb d_M_times_184 (lv_at hl 5 rfl) ?_
          refine lv_lconst (v := 1) hx hb d_M_times_186 (by decide) ?_
          refine lv_ladd hx hb d_M_times_187 ?_
          refine lv_goto (tgt := 193) hx hb d_M_times_188 (by decide) ?_
          have hE : g_M_times wd sz1 un mo rb iq bs = ((v14_0 + 1), j84_0) := by clear hP hD hl hS; subst ej177_0; subst ej84_0; subst ev14_1; subst ev14_0; unfold g_M_times; (try dsimp only); rw [if_pos c_181]
          have hP9 : va_P (dC, dI) classes [(bM, .inr (3, [.int cd, .int wd, .ref bT, .ref bF, .int al, .ref bN, .ref bP, .ref bQ, .ref bR, .int sz1, .int un, .int (b2i mo), .int tl, .int (b2i sp), .int tpo, .long fro, .int (b2i ((g_M_times wd sz1 un mo rb iq bs).2))])), (bR, .inl (kR, 33000, .inl (fun k => b2i (rb k))))] H := by rw [hE]; exact hP.sub [0, 1] rfl
          have hD9 : va_D A [(bM, .inr (3, [.int cd, .int wd, .ref bT, .ref bF, .int al, .ref bN, .ref bP, .ref bQ, .ref bR, .int sz1, .int un, .int (b2i mo), .int tl, .int (b2i sp), .int tpo, .long fro, .int (b2i ((g_M_times wd sz1 un mo rb iq bs).2))])), (bR, .inl (kR, 33000, .inl (fun k => b2i (rb k))))] := by rw [hE]; exact hD.sub [0, 1] (by decide) rfl
          exact W.lret (v := (v14_0 + 1)) hx hb hr (fun t ht hW => ⟨⟨(v14_0 + 1), (), rfl, by rw [hE], by rw [ht]; exact hP9, hD9⟩, hS.F ht⟩) hS.2.2 d_M_times_193
      · skip
        refine lv_if_ne (tgt := 130) hx hb d_M_times_101 (by decide) (fun c_101 => ?_) (fun c_101 => ?_)
        · skip
          refine lv_iload hx hb d_M_times_130 (lv_at hl 0 rfl) ?_
          refine lv_iconst (v := 1) hx hb d_M_times_132 (by decide) ?_
          refine lv_icmp_ne (tgt := 155) hx hb d_M_times_133 (by decide) (fun c_133 => ?_) (fun c_133 => ?_)
          · skip
            refine lv_iload hx hb d_M_times_155 (lv_at hl 0 rfl) ?_
            refine lv_iconst (v := 2) hx hb d_M_times_157 (by decide) ?_
            refine lv_icmp_ne (tgt := 176) hx hb d_M_times_158 (by decide) (fun c_158 => ?_) (fun c_158 => ?_)
            · skip
              refine lv_iconst (v := 0) hx hb d_M_times_176 (by decide) ?_
              exact J177 (false) H locs ls ⟨by clear hP hD hl hS; (try dsimp only); rw [if_neg c_101, if_neg c_133, if_neg c_158], hP.sub [0, 1] rfl, hD.sub [0, 1] (by decide) rfl, hS, lv_sub hl [1, 2, 3, 4, 5, 6, 7, 0] rfl⟩
            · skip
              refine lv_iload_n hx hb d_M_times_161 rfl (lv_at hl 3 rfl) ?_
              refine lv_if_ne (tgt := 176) hx hb d_M_times_162 (by decide) (fun c_162 => ?_) (fun c_162 => ?_)
              · skip
                have c_162 : bs = true := b2i_nz c_162
                refine lv_iconst (v := 0) hx hb d_M_times_176 (by decide) ?_
                exact J177 (false) H locs ls ⟨by clear hP hD hl hS; (try dsimp only); rw [if_neg c_101, if_neg c_133, if_pos c_158, if_pos c_162], hP.sub [0, 1] rfl, hD.sub [0, 1] (by decide) rfl, hS, lv_sub hl [1, 2, 3, 4, 5, 6, 7, 0] rfl⟩
              · skip
                have c_162 : ¬ bs = true := b2i_z c_162
                refine lv_aload_n hx hb d_M_times_165 rfl (lv_at hl 1 rfl) ?_
                refine va_get (D := (dC, dI)) (ci := 3) (v := .int (b2i j84_0)) (C := R_M) (T := F_M) (N := 17) hx hb htA in_M hown hK hP 0 rfl rfl 16 (by decide) (htA _ k_285) (fun _ h9 => h9) rfl d_M_times_166 ?_
                refine lv_if_eq (tgt := 176) hx hb d_M_times_169 (by decide) (fun c_169 => ?_) (fun c_169 => ?_)
                · skip
                  have c_169 : ¬ j84_0 = true := b2i_z c_169
                  refine lv_iconst (v := 0) hx hb d_M_times_176 (by decide) ?_
                  exact J177 (false) H locs ls ⟨by clear hP hD hl hS; (try dsimp only); rw [if_neg c_101, if_neg c_133, if_pos c_158, if_neg c_162, if_neg c_169], hP.sub [0, 1] rfl, hD.sub [0, 1] (by decide) rfl, hS, lv_sub hl [1, 2, 3, 4, 5, 6, 7, 0] rfl⟩
                · skip
                  have c_169 : j84_0 = true := b2i_nz c_169
                  refine lv_iconst (v := 1) hx hb d_M_times_172 (by decide) ?_
                  refine lv_goto (tgt := 177) hx hb d_M_times_173 (by decide) ?_
                  exact J177 (true) H locs ls ⟨by clear hP hD hl hS; (try dsimp only); rw [if_neg c_101, if_neg c_133, if_pos c_158, if_neg c_162, if_pos c_169], hP.sub [0, 1] rfl, hD.sub [0, 1] (by decide) rfl, hS, lv_sub hl [1, 2, 3, 4, 5, 6, 7, 0] rfl⟩
          · skip
            refine lv_iload_n hx hb d_M_times_136 rfl (lv_at hl 3 rfl) ?_
            refine lv_if_eq (tgt := 151) hx hb d_M_times_137 (by decide) (fun c_137 => ?_) (fun c_137 => ?_)
            · skip
              have c_137 : ¬ bs = true := b2i_z c_137
              refine lv_iconst (v := 0) hx hb d_M_times_151 (by decide) ?_
              refine lv_goto (tgt := 177) hx hb d_M_times_152 (by decide) ?_
              exact J177 (false) H locs ls ⟨by clear hP hD hl hS; (try dsimp only); rw [if_neg c_101, if_pos c_133, if_neg c_137], hP.sub [0, 1] rfl, hD.sub [0, 1] (by decide) rfl, hS, lv_sub hl [1, 2, 3, 4, 5, 6, 7, 0] rfl⟩
            · skip
              have c_137 : bs = true := b2i_nz c_137
              refine lv_aload_n hx hb d_M_times_140 rfl (lv_at hl 1 rfl) ?_
              refine va_get (D := (dC, dI)) (ci := 3) (v := .int (b2i j84_0)) (C := R_M) (T := F_M) (N := 17) hx hb htA in_M hown hK hP 0 rfl rfl 16 (by decide) (htA _ k_285) (fun _ h9 => h9) rfl d_M_times_141 ?_
              refine lv_if_eq (tgt := 151) hx hb d_M_times_144 (by decide) (fun c_144 => ?_) (fun c_144 => ?_)
              · skip
                have c_144 : ¬ j84_0 = true := b2i_z c_144
                refine lv_iconst (v := 0) hx hb d_M_times_151 (by decide) ?_
                refine lv_goto (tgt := 177) hx hb d_M_times_152 (by decide) ?_
                exact J177 (false) H locs ls ⟨by clear hP hD hl hS; (try dsimp only); rw [if_neg c_101, if_pos c_133, if_pos c_137, if_neg c_144], hP.sub [0, 1] rfl, hD.sub [0, 1] (by decide) rfl, hS, lv_sub hl [1, 2, 3, 4, 5, 6, 7, 0] rfl⟩
              · skip
                have c_144 : j84_0 = true := b2i_nz c_144
                refine lv_iconst (v := 1) hx hb d_M_times_147 (by decide) ?_
                refine lv_goto (tgt := 177) hx hb d_M_times_148 (by decide) ?_
                exact J177 (true) H locs ls ⟨by clear hP hD hl hS; (try dsimp only); rw [if_neg c_101, if_pos c_133, if_pos c_137, if_pos c_144], hP.sub [0, 1] rfl, hD.sub [0, 1] (by decide) rfl, hS, lv_sub hl [1, 2, 3, 4, 5, 6, 7, 0] rfl⟩
        · skip
          refine lv_iload hx hb d_M_times_104 (lv_at hl 6 rfl) ?_
          refine lv_if_eq (tgt := 126) hx hb d_M_times_106 (by decide) (fun c_106 => ?_) (fun c_106 => ?_)
          · skip
            have c_106 : ¬ (g_M_bit sz1 rb ((iq - un) - 1)) = true := b2i_z c_106
            refine lv_iconst (v := 0) hx hb d_M_times_126 (by decide) ?_
            refine lv_goto (tgt := 177) hx hb d_M_times_127 (by decide) ?_
            exact J177 (false) H locs ls ⟨by clear hP hD hl hS; (try dsimp only); rw [if_pos c_101, if_neg c_106], hP.sub [0, 1] rfl, hD.sub [0, 1] (by decide) rfl, hS, lv_sub hl [1, 2, 3, 4, 5, 6, 7, 0] rfl⟩
          · skip
            have c_106 : (g_M_bit sz1 rb ((iq - un) - 1)) = true := b2i_nz c_106
            refine lv_iload hx hb d_M_times_109 (lv_at hl 7 rfl) ?_
            refine lv_if_ne (tgt := 122) hx hb d_M_times_111 (by decide) (fun c_111 => ?_) (fun c_111 => ?_)
            · skip
              have c_111 : (g_M_rest sz1 mo rb ((iq - un) - 1)) = true := b2i_nz c_111
              refine lv_iconst (v := 1) hx hb d_M_times_122 (by decide) ?_
              refine lv_goto (tgt := 177) hx hb d_M_times_123 (by decide) ?_
              exact J177 (true) H locs ls ⟨by clear hP hD hl hS; (try dsimp only); rw [if_pos c_101, if_pos c_106, if_pos c_111], hP.sub [0, 1] rfl, hD.sub [0, 1] (by decide) rfl, hS, lv_sub hl [1, 2, 3, 4, 5, 6, 7, 0] rfl⟩
            · skip
              have c_111 : ¬ (g_M_rest sz1 mo rb ((iq - un) - 1)) = true := b2i_z c_111
              refine lv_aload_n hx hb d_M_times_114 rfl (lv_at hl 1 rfl) ?_
              refine lv_iload_n hx hb d_M_times_115 rfl (lv_at hl 4 rfl) ?_
              have hPc := hP.sub (ws' := [(bM, .inr (3, [.int cd, .int wd, .ref bT, .ref bF, .int al, .ref bN, .ref bP, .ref bQ, .ref bR, .int sz1, .int un, .int (b2i mo), .int tl, .int (b2i sp), .int tpo, .long fro, .int (b2i j84_0)])), (bR, .inl (kR, 33000, .inl (fun k => b2i (rb k))))]) [0, 1] rfl
              have hDc := hD.sub (ws' := [(bM, .inr (3, [.int cd, .int wd, .ref bT, .ref bF, .int al, .ref bN, .ref bP, .ref bQ, .ref bR, .int sz1, .int un, .int (b2i mo), .int tl, .int (b2i sp), .int tpo, .long fro, .int (b2i j84_0)])), (bR, .inl (kR, 33000, .inl (fun k => b2i (rb k))))]) [0, 1] (by decide) rfl
              have hKc := hK.sub (tys' := [(kR, .boolean)]) [0] rfl
              have hFc := va_free (wc := [(bM, .inr (3, [.int cd, .int wd, .ref bT, .ref bF, .int al, .ref bN, .ref bP, .ref bQ, .ref bR, .int sz1, .int un, .int (b2i mo), .int tl, .int (b2i sp), .int tpo, .long fro, .int (b2i j84_0)])), (bR, .inl (kR, 33000, .inl (fun k => b2i (rb k))))]) hD hS hA [0, 1] rfl
              refine cc_i (va_runV (As := [.int (iq - un)]) (rest := []) ⟨hx, hb, hml, hown, htA⟩ (c_M_bit l dC dI kR bM bR bT bF bN bP bQ H.size cd wd al sz1 un mo tl sp tpo fro j84_0 rb (iq - un) (by assumption)) (cwV 1 htA (gi_V k_279 k_280 k_281 k_263 (gi_code k_273)) rfl rfl rfl (by decide +kernel) ⟨Nat.le_of_ble_eq_true rfl, Nat.le_of_ble_eq_true rfl⟩) (pre_V hnw hPc hKc hDc (ci := 3) (q0 := 0) rfl rfl) rfl rfl hl.1 rfl (lv_room (Nat.le_of_ble_eq_true rfl)) d_M_times_116 ⟨Nat.le_of_ble_eq_true rfl, Nat.le_of_ble_eq_true rfl⟩) hS hFc hP hD [0, 1] [] (wr := []) rfl rfl (by decide) (by decide) (fun H locs hP hD hS => ?_)
              have hP : va_P (dC, dI) classes [(bM, .inr (3, [.int cd, .int wd, .ref bT, .ref bF, .int al, .ref bN, .ref bP, .ref bQ, .ref bR, .int sz1, .int un, .int (b2i mo), .int tl, .int (b2i sp), .int tpo, .long fro, .int (b2i j84_0)])), (bR, .inl (kR, 33000, .inl (fun k => b2i (rb k))))] H := hP
              have hD : va_D A [(bM, .inr (3, [.int cd, .int wd, .ref bT, .ref bF, .int al, .ref bN, .ref bP, .ref bQ, .ref bR, .int sz1, .int un, .int (b2i mo), .int tl, .int (b2i sp), .int tpo, .long fro, .int (b2i j84_0)])), (bR, .inl (kR, 33000, .inl (fun k => b2i (rb k))))] := hD
              refine lv_if_eq (tgt := 126) hx hb d_M_times_119 (by decide) (fun c_119 => ?_) (fun c_119 => ?_)
              · skip
                have c_119 : ¬ (g_M_bit sz1 rb (iq - un)) = true := b2i_z c_119
                refine lv_iconst (v := 0) hx hb d_M_times_126 (by decide) ?_
                refine lv_goto (tgt := 177) hx hb d_M_times_127 (by decide) ?_
                exact J177 (false) H locs ls ⟨by clear hP hD hl hS; (try dsimp only); rw [if_pos c_101, if_pos c_106, if_neg c_111, if_neg c_119], hP.sub [0, 1] rfl, hD.sub [0, 1] (by decide) rfl, hS, lv_sub hl [1, 2, 3, 4, 5, 6, 7, 0] rfl⟩
              · skip
                have c_119 : (g_M_bit sz1 rb (iq - un)) = true := b2i_nz c_119
                refine lv_iconst (v := 1) hx hb d_M_times_122 (by decide) ?_
                refine lv_goto (tgt := 177) hx hb d_M_times_123 (by decide) ?_
                exact J177 (true) H locs ls ⟨by clear hP hD hl hS; (try dsimp only); rw [if_pos c_101, if_pos c_106, if_neg c_111, if_pos c_119], hP.sub [0, 1] rfl, hD.sub [0, 1] (by decide) rfl, hS, lv_sub hl [1, 2, 3, 4, 5, 6, 7, 0] rfl⟩
    · skip
      refine lv_if_ne (tgt := 79) hx hb d_M_times_71 (by decide) (fun c_71 => ?_) (fun c_71 => ?_)
      · skip
        have c_71 : (g_M_bit sz1 rb ((iq - un) - 1)) = true := b2i_nz c_71
        refine lv_iconst (v := 1) hx hb d_M_times_79 (by decide) ?_
        refine lv_goto (tgt := 84) hx hb d_M_times_80 (by decide) ?_
        exact J84 (true) H locs ls ⟨by clear hP hD hl hS; (try dsimp only); rw [if_pos c_71], hP.sub [0, 1] rfl, hD.sub [0, 1] (by decide) rfl, hS, lv_sub hl [2, 3, 4, 5, 6, 1, 0] rfl⟩
      · skip
        have c_71 : ¬ (g_M_bit sz1 rb ((iq - un) - 1)) = true := b2i_z c_71
        refine lv_iload hx hb d_M_times_74 (lv_at hl 0 rfl) ?_
        refine lv_if_eq (tgt := 83) hx hb d_M_times_76 (by decide) (fun c_76 => ?_) (fun c_76 => ?_)
        · skip
          have c_76 : ¬ (g_M_rest sz1 mo rb ((iq - un) - 1)) = true := b2i_z c_76
          refine lv_iconst (v := 0) hx hb d_M_times_83 (by decide) ?_
          exact J84 (false) H locs ls ⟨by clear hP hD hl hS; (try dsimp only); rw [if_neg c_71, if_neg c_76], hP.sub [0, 1] rfl, hD.sub [0, 1] (by decide) rfl, hS, lv_sub hl [2, 3, 4, 5, 6, 1, 0] rfl⟩
        · skip
          have c_76 : (g_M_rest sz1 mo rb ((iq - un) - 1)) = true := b2i_nz c_76
          refine lv_iconst (v := 1) hx hb d_M_times_79 (by decide) ?_
          refine lv_goto (tgt := 84) hx hb d_M_times_80 (by decide) ?_
          exact J84 (true) H locs ls ⟨by clear hP hD hl hS; (try dsimp only); rw [if_neg c_71, if_pos c_76], hP.sub [0, 1] rfl, hD.sub [0, 1] (by decide) rfl, hS, lv_sub hl [2, 3, 4, 5, 6, 1, 0] rfl⟩
theorem d_M_put_0 : decode b_M_put 0 = .ok (.lload_n 2, 1) := by decide +kernel
theorem d_M_put_1 : decode b_M_put 1 = .ok (.lconst 0, 1) := by decide +kernel
theorem d_M_put_2 : decode b_M_put 2 = .ok (.lcmp, 1) := by decide +kernel
theorem d_M_put_3 : decode b_M_put 3 = .ok (.ifCond .ne 16, 3) := by decide +kernel
theorem d_M_put_19 : decode b_M_put 19 = .ok (.bipush 64, 2) := by decide +kernel
theorem d_M_put_21 : decode b_M_put 21 = .ok (.istore 7, 2) := by decide +kernel
theorem d_M_put_23 : decode b_M_put 23 = .ok (.iload 4, 2) := by decide +kernel
theorem d_M_put_25 : decode b_M_put 25 = .ok (.ifCond .ne 24, 3) := by decide +kernel
theorem d_M_put_49 : decode b_M_put 49 = .ok (.iload 5, 2) := by decide +kernel
theorem d_M_put_51 : decode b_M_put 51 = .ok (.iload 7, 2) := by decide +kernel
theorem d_M_put_53 : decode b_M_put 53 = .ok (.iadd, 1) := by decide +kernel
theorem d_M_put_54 : decode b_M_put 54 = .ok (.sipush 16383, 3) := by decide +kernel
theorem d_M_put_57 : decode b_M_put 57 = .ok (.iadd, 1) := by decide +kernel
theorem d_M_put_58 : decode b_M_put 58 = .ok (.iload 6, 2) := by decide +kernel
theorem d_M_put_60 : decode b_M_put 60 = .ok (.iadd, 1) := by decide +kernel
theorem d_M_put_61 : decode b_M_put 61 = .ok (.istore 8, 2) := by decide +kernel
theorem d_M_put_63 : decode b_M_put 63 = .ok (.iload 4, 2) := by decide +kernel
theorem d_M_put_65 : decode b_M_put 65 = .ok (.ifCond .eq 9, 3) := by decide +kernel
theorem d_M_put_74 : decode b_M_put 74 = .ok (.lload_n 2, 1) := by decide +kernel
theorem d_M_put_75 : decode b_M_put 75 = .ok (.bipush 63, 2) := by decide +kernel
theorem d_M_put_77 : decode b_M_put 77 = .ok (.iload 7, 2) := by decide +kernel
theorem d_M_put_79 : decode b_M_put 79 = .ok (.isub, 1) := by decide +kernel
theorem d_M_put_80 : decode b_M_put 80 = .ok (.lshl, 1) := by decide +kernel
theorem d_M_put_68 : decode b_M_put 68 = .ok (.ldc2_w 87, 3) := by decide +kernel
theorem d_M_put_71 : decode b_M_put 71 = .ok (.goto 10, 3) := by decide +kernel
theorem d_M_put_81 : decode b_M_put 81 = .ok (.lstore 9, 2) := by decide +kernel
theorem d_M_put_83 : decode b_M_put 83 = .ok (.iload 8, 2) := by decide +kernel
theorem d_M_put_85 : decode b_M_put 85 = .ok (.ifCond .le 15, 3) := by decide +kernel
theorem d_M_put_100 : decode b_M_put 100 = .ok (.aload_n 0, 1) := by decide +kernel
theorem d_M_put_101 : decode b_M_put 101 = .ok (.iload_n 1, 1) := by decide +kernel
theorem d_M_put_102 : decode b_M_put 102 = .ok (.iconst 0, 1) := by decide +kernel
theorem d_M_put_103 : decode b_M_put 103 = .ok (.lload_n 2, 1) := by decide +kernel
theorem d_M_put_104 : decode b_M_put 104 = .ok (.iload 5, 2) := by decide +kernel
theorem d_M_put_106 : decode b_M_put 106 = .ok (.sipush 16445, 3) := by decide +kernel
theorem d_M_put_109 : decode b_M_put 109 = .ok (.iadd, 1) := by decide +kernel
theorem d_M_put_110 : decode b_M_put 110 = .ok (.lshl, 1) := by decide +kernel
theorem d_M_put_111 : decode b_M_put 111 = .ok (.invokevirtual 83, 3) := by decide +kernel
theorem d_M_put_114 : decode b_M_put 114 = .ok (.return_, 1) := by decide +kernel
theorem d_M_put_88 : decode b_M_put 88 = .ok (.aload_n 0, 1) := by decide +kernel
theorem d_M_put_89 : decode b_M_put 89 = .ok (.iload_n 1, 1) := by decide +kernel
theorem d_M_put_90 : decode b_M_put 90 = .ok (.iload 8, 2) := by decide +kernel
theorem d_M_put_92 : decode b_M_put 92 = .ok (.lload 9, 2) := by decide +kernel
theorem d_M_put_94 : decode b_M_put 94 = .ok (.invokevirtual 83, 3) := by decide +kernel
theorem d_M_put_97 : decode b_M_put 97 = .ok (.goto 17, 3) := by decide +kernel
theorem d_M_put_28 : decode b_M_put 28 = .ok (.bipush 63, 2) := by decide +kernel
theorem d_M_put_30 : decode b_M_put 30 = .ok (.istore 7, 2) := by decide +kernel
theorem d_M_put_32 : decode b_M_put 32 = .ok (.lload_n 2, 1) := by decide +kernel
theorem d_M_put_33 : decode b_M_put 33 = .ok (.iload 7, 2) := by decide +kernel
theorem d_M_put_35 : decode b_M_put 35 = .ok (.lshr, 1) := by decide +kernel
theorem d_M_put_36 : decode b_M_put 36 = .ok (.lconst 1, 1) := by decide +kernel
theorem d_M_put_37 : decode b_M_put 37 = .ok (.land, 1) := by decide +kernel
theorem d_M_put_38 : decode b_M_put 38 = .ok (.lconst 0, 1) := by decide +kernel
theorem d_M_put_39 : decode b_M_put 39 = .ok (.lcmp, 1) := by decide +kernel
theorem d_M_put_40 : decode b_M_put 40 = .ok (.ifCond .ne 9, 3) := by decide +kernel
theorem d_M_put_43 : decode b_M_put 43 = .ok (.iinc 7 (-1), 3) := by decide +kernel
theorem d_M_put_46 : decode b_M_put 46 = .ok (.goto (-14), 3) := by decide +kernel
theorem d_M_put_6 : decode b_M_put 6 = .ok (.iload 4, 2) := by decide +kernel
theorem d_M_put_8 : decode b_M_put 8 = .ok (.ifCond .ne 11, 3) := by decide +kernel
theorem d_M_put_11 : decode b_M_put 11 = .ok (.aload_n 0, 1) := by decide +kernel
theorem d_M_put_12 : decode b_M_put 12 = .ok (.iload_n 1, 1) := by decide +kernel
theorem d_M_put_13 : decode b_M_put 13 = .ok (.iconst 0, 1) := by decide +kernel
theorem d_M_put_14 : decode b_M_put 14 = .ok (.lconst 0, 1) := by decide +kernel
theorem d_M_put_15 : decode b_M_put 15 = .ok (.invokevirtual 83, 3) := by decide +kernel
theorem d_M_put_18 : decode b_M_put 18 = .ok (.return_, 1) := by decide +kernel
set_option maxHeartbeats 4000000 in
set_option maxRecDepth 100000 in
theorem c_M_put (l : Launch) (dC : Nat → ClassId) (dI : Nat → Nat → Nat) (bM : Nat) (bT : Nat) (bF : Nat) (bN : Nat) (bP : Nat) (bQ : Nat) (bR : Nat) (sz : Nat) (cd : Int32) (wd : Int32) (al : Int32) (sz1 : Int32) (un : Int32) (mo : Bool) (tl : Int32) (sp : Bool) (tpo : Int32) (fro : Int64) (ly : Bool) (bs : Bool) (jw : Int64) (bw : Bool) (iq : Int32) (im : Int32) : Met l y_M_put w_M_put ({ frames := 1, cells := 0, slots := 0, locals := 24 }) (cPc (dC, dI) [] [.ref bM, .int (b2i bs), .long jw, .int (b2i bw), .int iq, .int im] [(bM, .inr (3, [.int cd, .int wd, .ref bT, .ref bF, .int al, .ref bN, .ref bP, .ref bQ, .ref bR, .int sz1, .int un, .int (b2i mo), .int tl, .int (b2i sp), .int tpo, .long fro, .int (b2i ly)]))] sz) (va_Qv (fun (_ : Unit) => True) (fun _ t => va_P (dC, dI) classes [(bM, .inr (3, [.int cd, .int wd, .ref bT, .ref bF, .int al, .ref bN, .ref bP, .ref bQ, .ref bR, .int sz1, .int un, .int (b2i mo), .int tl, .int (b2i sp), .int ((g_M_put bs jw bw iq im).1), .long ((g_M_put bs jw bw iq im).2), .int (b2i ly)]))] t.heap ∧ va_D (va_A [(bM, .inr (3, [.int cd, .int wd, .ref bT, .ref bF, .int al, .ref bN, .ref bP, .ref bQ, .ref bR, .int sz1, .int un, .int (b2i mo), .int tl, .int (b2i sp), .int tpo, .long fro, .int (b2i ly)]))] sz) [(bM, .inr (3, [.int cd, .int wd, .ref bT, .ref bF, .int al, .ref bN, .ref bP, .ref bQ, .ref bR, .int sz1, .int un, .int (b2i mo), .int tl, .int (b2i sp), .int ((g_M_put bs jw bw iq im).1), .long ((g_M_put bs jw bw iq im).2), .int (b2i ly)]))]) (va_A [(bM, .inr (3, [.int cd, .int wd, .ref bT, .ref bF, .int al, .ref bN, .ref bP, .ref bQ, .ref bR, .int sz1, .int un, .int (b2i mo), .int tl, .int (b2i sp), .int tpo, .long fro, .int (b2i ly)]))] sz)) 0 0 (va_A [(bM, .inr (3, [.int cd, .int wd, .ref bT, .ref bF, .int al, .ref bN, .ref bP, .ref bQ, .ref bR, .int sz1, .int un, .int (b2i mo), .int tl, .int (b2i sp), .int tpo, .long fro, .int (b2i ly)]))] sz) := by
  refine Met.ofW (cc := b_M_put) (maxL := 11) (ret := none) (by decide) rfl ?_
  intro p e s m args below meth c s₁ B hml hv
  obtain ⟨rfl, hsz, hP, hK, hD0, hnw⟩ := hv
  have hx := B.exec
  have hb := B.bytes
  have hr := B.returns
  have hts := atoms_spec (ws := w_M_put) B.pre
  have htA : ∀ w ∈ wAll, w.before _ s = true := fun w h => hts w (List.mem_cons_of_mem _ h)
  have hown : s.vm.findClass R_M = some m.cls := findClass_of_methodNamed B.named
  have hlocks := B.notSynchronized
  subst hsz
  have hD := hD0.self (sz := s.heap.size)
  generalize hAe : va_A [(bM, .inr (3, [.int cd, .int wd, .ref bT, .ref bF, .int al, .ref bN, .ref bP, .ref bQ, .ref bR, .int sz1, .int un, .int (b2i mo), .int tl, .int (b2i sp), .int tpo, .long fro, .int (b2i ly)]))] s.heap.size = A at hD ⊢
  have hA : ∀ q : Nat, s.heap.size ≤ q → A q := fun q h => by rw [← hAe]; exact Or.inr h
  have hS : va_S A s.heap s.heap [] := va_S.rf
  have hP : va_P (dC, dI) classes [(bM, .inr (3, [.int cd, .int wd, .ref bT, .ref bF, .int al, .ref bN, .ref bP, .ref bQ, .ref bR, .int sz1, .int un, .int (b2i mo), .int tl, .int (b2i sp), .int tpo, .long fro, .int (b2i ly)]))] s.heap := hP
  obtain ⟨H, eH⟩ : ∃ z, z = s.heap := ⟨_, rfl⟩
  rw [← eH] at hP
  have hS : va_S A s.heap H [] := by rw [eH]; exact hS
  rw [← eH]
  generalize ([] : List Loc) = locs at hS ⊢
  have hl := lv_entry ([.ref bM, .int (b2i bs), .long jw, .int (b2i bw), .int iq, .int im]) (n := 11) (Nat.le_of_ble_eq_true rfl)
  rw [lg_entry_eq]
  generalize (lg_sl ([.ref bM, .int (b2i bs), .long jw, .int (b2i bw), .int iq, .int im]) ++ List.replicate (11 - (lg_sl ([.ref bM, .int (b2i bs), .long jw, .int (b2i bw), .int iq, .int im])).length) Slot.unset).toArray = ls at hl ⊢
  have hl : lv_has ls 11 [(0, .ref bM), (1, .int (b2i bs)), (2, .long jw), (4, .int (b2i bw)), (5, .int iq), (6, .int im)] := hl
  refine lv_lload_n hx hb d_M_put_0 rfl (lv_at hl 2 rfl) ?_
  refine lv_lconst (v := 0) hx hb d_M_put_1 (by decide) ?_
  refine W.lcmp hx hb d_M_put_2 ?_
  refine lv_if_ne (tgt := 19) hx hb d_M_put_3 (by decide) (fun c_3 => ?_) (fun c_3 => ?_)
  · skip
    have c_3 : ¬ jw = 0 := fun h9 => c_3 ((lg_cmp_eq _ _).mpr h9)
    refine lv_bipush (v := 64) hx hb d_M_put_19 (by decide) ?_
    refine lv_istore (lv' := [(7, .int 64), (0, .ref bM), (1, .int (b2i bs)), (2, .long jw), (4, .int (b2i bw)), (5, .int iq), (6, .int im)]) hx hb d_M_put_21 hl (by decide) rfl (fun ls hl => ?_)
    refine lv_iload hx hb d_M_put_23 (lv_at hl 4 rfl) ?_
    refine lv_if_ne (tgt := 49) hx hb d_M_put_25 (by decide) (fun c_25 => ?_) (fun c_25 => ?_)
    · skip
      have c_25 : bw = true := b2i_nz c_25
      refine lv_iload hx hb d_M_put_49 (lv_at hl 5 rfl) ?_
      refine lv_iload hx hb d_M_put_51 (lv_at hl 0 rfl) ?_
      refine lv_iadd hx hb d_M_put_53 ?_
      refine lv_sipush (v := 16383) hx hb d_M_put_54 (by decide) ?_
      refine lv_iadd hx hb d_M_put_57 ?_
      refine lv_iload hx hb d_M_put_58 (lv_at hl 6 rfl) ?_
      refine lv_iadd hx hb d_M_put_60 ?_
      refine lv_istore (lv' := [(8, .int (((iq + 64) + 16383) + im)), (7, .int 64), (0, .ref bM), (1, .int (b2i bs)), (2, .long jw), (4, .int (b2i bw)), (5, .int iq), (6, .int im)]) hx hb d_M_put_61 hl (by decide) rfl (fun ls hl => ?_)
      refine lv_iload hx hb d_M_put_63 (lv_at hl 5 rfl) ?_
      refine cut_join (X := Int64) 0 0 (fun (x : Int64) (H : Heap) (locs : List Loc) (ls : Array Slot) => (if bw = true then (-9223372036854775808) else (sL jw (63 - 64))) = x ∧ va_P (dC, dI) classes [(bM, .inr (3, [.int cd, .int wd, .ref bT, .ref bF, .int al, .ref bN, .ref bP, .ref bQ, .ref bR, .int sz1, .int un, .int (b2i mo), .int tl, .int (b2i sp), .int tpo, .long fro, .int (b2i ly)]))] H ∧ va_D A [(bM, .inr (3, [.int cd, .int wd, .ref bT, .ref bF, .int al, .ref bN, .ref bP, .ref bQ, .ref bR, .int sz1, .int un, .int (b2i mo), .int tl, .int (b2i sp), .int tpo, .long fro, .int (b2i ly)]))] ∧ va_S A s.heap H locs ∧ lv_has ls 11 [(0, .ref bM), (1, .int (b2i bs)), (2, .long jw), (4, .int (b2i bw)), (5, .int iq), (6, .int im), (7, .int 64), (8, .int (((iq + 64) + 16383) + im))]) (fun x ls => F0 m 81 ls [.long x]) ?_ (fun J81 => ?_)
      · skip
        rintro j81_0 H locs ls ⟨ej81_0, hP, hD, hS, hl⟩
        have ej81_0 : (if bw = true then (-9223372036854775808) else (sL jw (63 - 64))) = j81_0 := ej81_0
        have hP : va_P (dC, dI) classes [(bM, .inr (3, [.int cd, .int wd, .ref bT, .ref bF, .int al, .ref bN, .ref bP, .ref bQ, .ref bR, .int sz1, .int un, .int (b2i mo), .int tl, .int (b2i sp), .int tpo, .long fro, .int (b2i ly)]))] H := hP
        have hD : va_D A [(bM, .inr (3, [.int cd, .int wd, .ref bT, .ref bF, .int al, .ref bN, .ref bP, .ref bQ, .ref bR, .int sz1, .int un, .int (b2i mo), .int tl, .int (b2i sp), .int tpo, .long fro, .int (b2i ly)]))] := hD
        have hl : lv_has ls 11 [(0, .ref bM), (1, .int (b2i bs)), (2, .long jw), (4, .int (b2i bw)), (5, .int iq), (6, .int im), (7, .int 64), (8, .int (((iq + 64) + 16383) + im))] := hl
        refine lv_lstore (lv' := [(9, .long j81_0), (0, .ref bM), (1, .int (b2i bs)), (2, .long jw), (4, .int (b2i bw)), (5, .int iq), (6, .int im), (7, .int 64), (8, .int (((iq + 64) + 16383) + im))]) hx hb d_M_put_81 hl (by decide) rfl (fun ls hl => ?_)
        refine lv_iload hx hb d_M_put_83 (lv_at hl 8 rfl) ?_
        refine lv_if_le (tgt := 100) hx hb d_M_put_85 (by decide) (fun c_85 => ?_) (fun c_85 => ?_)
        · skip
          refine lv_aload_n hx hb d_M_put_100 rfl (lv_at hl 1 rfl) ?_
          refine lv_iload_n hx hb d_M_put_101 rfl (lv_at hl 2 rfl) ?_
          refine lv_iconst (v := 0) hx hb d_M_put_102 (by decide) ?_
          refine lv_lload_n hx hb d_M_put_103 rfl (lv_at hl 3 rfl) ?_
          refine lv_iload hx hb d_M_put_104 (lv_at hl 5 rfl) ?_
          refine lv_sipush (v := 16445) hx hb d_M_put_106 (by decide) ?_
          refine lv_iadd hx hb d_M_put_109 ?_
          refine lv_lshl (v := (sL jw (iq + 16445))) hx hb d_M_put_110 rfl ?_
          have hPc := hP.sub (ws' := [(bM, .inr (3, [.int cd, .int wd, .ref bT, .ref bF, .int al, .ref bN, .ref bP, .ref bQ, .ref bR, .int sz1, .int un, .int (b2i mo), .int tl, .int (b2i sp), .int tpo, .long fro, .int (b2i ly)]))]) [0] rfl
          have hDc := hD.sub (ws' := [(bM, .inr (3, [.int cd, .int wd, .ref bT, .ref bF, .int al, .ref bN, .ref bP, .ref bQ, .ref bR, .int sz1, .int un, .int (b2i mo), .int tl, .int (b2i sp), .int tpo, .long fro, .int (b2i ly)]))]) [0] (by decide) rfl
          have hKc := hK.sub (tys' := []) [] rfl
          have hFc := va_free (wc := [(bM, .inr (3, [.int cd, .int wd, .ref bT, .ref bF, .int al, .ref bN, .ref bP, .ref bQ, .ref bR, .int sz1, .int un, .int (b2i mo), .int tl, .int (b2i sp), .int tpo, .long fro, .int (b2i ly)]))]) hD hS hA [0] rfl
          refine cc_v (va_runV (As := [.int (b2i bs), .int 0, .long (sL jw (iq + 16445))]) (rest := []) ⟨hx, hb, hml, hown, htA⟩ (c_M_answer l dC dI bM bT bF bN bP bQ bR H.size cd wd al sz1 un mo tl sp tpo fro ly bs 0 (sL jw (iq + 16445))) (cwV 3 htA (gi_V k_288 k_289 k_290 k_263 (gi_code k_254)) rfl rfl rfl (by decide +kernel) ⟨Nat.le_of_ble_eq_true rfl, Nat.le_of_ble_eq_true rfl⟩) (pre_V hnw hPc hKc hDc (ci := 3) (q0 := 0) rfl rfl) rfl rfl hl.1 rfl (lv_room (Nat.le_of_ble_eq_true rfl)) d_M_put_111 ⟨Nat.le_of_ble_eq_true rfl, Nat.le_of_ble_eq_true rfl⟩) hS hFc hP hD [0] [] (wr := []) rfl rfl (by decide) (by decide) (fun H locs hP hD hS => ?_)
          have hP : va_P (dC, dI) classes [(bM, .inr (3, [.int cd, .int wd, .ref bT, .ref bF, .int al, .ref bN, .ref bP, .ref bQ, .ref bR, .int sz1, .int un, .int (b2i mo), .int tl, .int (b2i sp), .int (g_M_answer bs 0), .long (sL jw (iq + 16445)), .int (b2i ly)]))] H := hP
          have hD : va_D A [(bM, .inr (3, [.int cd, .int wd, .ref bT, .ref bF, .int al, .ref bN, .ref bP, .ref bQ, .ref bR, .int sz1, .int un, .int (b2i mo), .int tl, .int (b2i sp), .int (g_M_answer bs 0), .long (sL jw (iq + 16445)), .int (b2i ly)]))] := hD
          have hE : g_M_put bs jw bw iq im = ((g_M_answer bs 0), (sL jw (iq + 16445))) := by clear hP hD hl hS; subst ej81_0; unfold g_M_put; (try dsimp only); rw [if_neg c_3, if_pos c_25, if_pos c_85]
          have hP9 : va_P (dC, dI) classes [(bM, .inr (3, [.int cd, .int wd, .ref bT, .ref bF, .int al, .ref bN, .ref bP, .ref bQ, .ref bR, .int sz1, .int un, .int (b2i mo), .int tl, .int (b2i sp), .int ((g_M_put bs jw bw iq im).1), .long ((g_M_put bs jw bw iq im).2), .int (b2i ly)]))] H := by rw [hE]; exact hP.sub [0] rfl
          have hD9 : va_D A [(bM, .inr (3, [.int cd, .int wd, .ref bT, .ref bF, .int al, .ref bN, .ref bP, .ref bQ, .ref bR, .int sz1, .int un, .int (b2i mo), .int tl, .int (b2i sp), .int ((g_M_put bs jw bw iq im).1), .long ((g_M_put bs jw bw iq im).2), .int (b2i ly)]))] := by rw [hE]; exact hD.sub [0] (by decide) rfl
          exact W.vret hx hb hr (fun t ht hW => ⟨⟨(), rfl, trivial, by rw [ht]; exact hP9, hD9⟩, hS.F ht⟩) hS.2.2 d_M_put_114
        · skip
          refine lv_aload_n hx hb d_M_put_88 rfl (lv_at hl 1 rfl) ?_
          refine lv_iload_n hx hb d_M_put_89 rfl (lv_at hl 2 rfl) ?_
          refine lv_iload hx hb d_M_put_90 (lv_at hl 8 rfl) ?_
          refine lv_lload hx hb d_M_put_92 (lv_at hl 0 rfl) ?_
          have hPc := hP.sub (ws' := [(bM, .inr (3, [.int cd, .int wd, .ref bT, .ref bF, .int al, .ref bN, .ref bP, .ref bQ, .ref bR, .int sz1, .int un, .int (b2i mo), .int tl, .int (b2i sp), .int tpo, .long fro, .int (b2i ly)]))]) [0] rfl
          have hDc := hD.sub (ws' := [(bM, .inr (3, [.int cd, .int wd, .ref bT, .ref bF, .int al, .ref bN, .ref bP, .ref bQ, .ref bR, .int sz1, .int un, .int (b2i mo), .int tl, .int (b2i sp), .int tpo, .long fro, .int (b2i ly)]))]) [0] (by decide) rfl
          have hKc := hK.sub (tys' := []) [] rfl
          have hFc := va_free (wc := [(bM, .inr (3, [.int cd, .int wd, .ref bT, .ref bF, .int al, .ref bN, .ref bP, .ref bQ, .ref bR, .int sz1, .int un, .int (b2i mo), .int tl, .int (b2i sp), .int tpo, .long fro, .int (b2i ly)]))]) hD hS hA [0] rfl
          refine cc_v (va_runV (As := [.int (b2i bs), .int (((iq + 64) + 16383) + im), .long j81_0]) (rest := []) ⟨hx, hb, hml, hown, htA⟩ (c_M_answer l dC dI bM bT bF bN bP bQ bR H.size cd wd al sz1 un mo tl sp tpo fro ly bs (((iq + 64) + 16383) + im) j81_0) (cwV 3 htA (gi_V k_288 k_289 k_290 k_263 (gi_code k_254)) rfl rfl rfl (by decide +kernel) ⟨Nat.le_of_ble_eq_true rfl, Nat.le_of_ble_eq_true rfl⟩) (pre_V hnw hPc hKc hDc (ci := 3) (q0 := 0) rfl rfl) rfl rfl hl.1 rfl (lv_room (Nat.le_of_ble_eq_true rfl)) d_M_put_94 ⟨Nat.le_of_ble_eq_true rfl, Nat.le_of_ble_eq_true rfl⟩) hS hFc hP hD [0] [] (wr := []) rfl rfl (by decide) (by decide) (fun H locs hP hD hS => ?_)
          have hP : va_P (dC, dI) classes [(bM, .inr (3, [.int cd, .int wd, .ref bT, .ref bF, .int al, .ref bN, .ref bP, .ref bQ, .ref bR, .int sz1, .int un, .int (b2i mo), .int tl, .int (b2i sp), .int (g_M_answer bs (((iq + 64) + 16383) + im)), .long j81_0, .int (b2i ly)]))] H := hP
          have hD : va_D A [(bM, .inr (3, [.int cd, .int wd, .ref bT, .ref bF, .int al, .ref bN, .ref bP, .ref bQ, .ref bR, .int sz1, .int un, .int (b2i mo), .int tl, .int (b2i sp), .int (g_M_answer bs (((iq + 64) + 16383) + im)), .long j81_0, .int (b2i ly)]))] := hD
          refine lv_goto (tgt := 114) hx hb d_M_put_97 (by decide) ?_
          have hE : g_M_put bs jw bw iq im = ((g_M_answer bs (((iq + 64) + 16383) + im)), j81_0) := by clear hP hD hl hS; subst ej81_0; unfold g_M_put; (try dsimp only); rw [if_neg c_3, if_pos c_25, if_neg c_85]
          have hP9 : va_P (dC, dI) classes [(bM, .inr (3, [.int cd, .int wd, .ref bT, .ref bF, .int al, .ref bN, .ref bP, .ref bQ, .ref bR, .int sz1, .int un, .int (b2i mo), .int tl, .int (b2i sp), .int ((g_M_put bs jw bw iq im).1), .long ((g_M_put bs jw bw iq im).2), .int (b2i ly)]))] H := by rw [hE]; exact hP.sub [0] rfl
          have hD9 : va_D A [(bM, .inr (3, [.int cd, .int wd, .ref bT, .ref bF, .int al, .ref bN, .ref bP, .ref bQ, .ref bR, .int sz1, .int un, .int (b2i mo), .int tl, .int (b2i sp), .int ((g_M_put bs jw bw iq im).1), .long ((g_M_put bs jw bw iq im).2), .int (b2i ly)]))] := by rw [hE]; exact hD.sub [0] (by decide) rfl
          exact W.vret hx hb hr (fun t ht hW => ⟨⟨(), rfl, trivial, by rw [ht]; exact hP9, hD9⟩, hS.F ht⟩) hS.2.2 d_M_put_114
      · skip
        refine lv_if_eq (tgt := 74) hx hb d_M_put_65 (by decide) (fun c_65 => ?_) (fun c_65 => ?_)
        · skip
          have c_65 : ¬ bw = true := b2i_z c_65
          refine lv_lload_n hx hb d_M_put_74 rfl (lv_at hl 4 rfl) ?_
          refine lv_bipush (v := 63) hx hb d_M_put_75 (by decide) ?_
          refine lv_iload hx hb d_M_put_77 (lv_at hl 1 rfl) ?_
          refine lv_isub hx hb d_M_put_79 ?_
          refine lv_lshl (v := (sL jw (63 - 64))) hx hb d_M_put_80 rfl ?_
          exact J81 ((sL jw (63 - 64))) H locs ls ⟨by clear hP hD hl hS; (try dsimp only); rw [if_neg c_65], hP.sub [0] rfl, hD.sub [0] (by decide) rfl, hS, lv_sub hl [2, 3, 4, 5, 6, 7, 1, 0] rfl⟩
        · skip
          have c_65 : bw = true := b2i_nz c_65
          refine lv_ldc2 (v := (-9223372036854775808)) hx hb hown (htA _ k_287) d_M_put_68 ?_
          refine lv_goto (tgt := 81) hx hb d_M_put_71 (by decide) ?_
          exact J81 ((-9223372036854775808)) H locs ls ⟨by clear hP hD hl hS; (try dsimp only); rw [if_pos c_65], hP.sub [0] rfl, hD.sub [0] (by decide) rfl, hS, lv_sub hl [2, 3, 4, 5, 6, 7, 1, 0] rfl⟩
    · skip
      have c_25 : ¬ bw = true := b2i_z c_25
      refine lv_bipush (v := 63) hx hb d_M_put_28 (by decide) ?_
      refine lv_istore (lv' := [(7, .int 63), (0, .ref bM), (1, .int (b2i bs)), (2, .long jw), (4, .int (b2i bw)), (5, .int iq), (6, .int im)]) hx hb d_M_put_30 hl (by decide) rfl (fun ls hl => ?_)
      refine loop_cut (S := Int32) (nx_M_put_32 jw) 64 (63) (M_put_end jw (by first | assumption | exact absurd (by assumption) c_25)) 0 0 (fun (x : Int32) (H : Heap) (locs : List Loc) (ls : Array Slot) => va_P (dC, dI) classes [(bM, .inr (3, [.int cd, .int wd, .ref bT, .ref bF, .int al, .ref bN, .ref bP, .ref bQ, .ref bR, .int sz1, .int un, .int (b2i mo), .int tl, .int (b2i sp), .int tpo, .long fro, .int (b2i ly)]))] H ∧ va_D A [(bM, .inr (3, [.int cd, .int wd, .ref bT, .ref bF, .int al, .ref bN, .ref bP, .ref bQ, .ref bR, .int sz1, .int un, .int (b2i mo), .int tl, .int (b2i sp), .int tpo, .long fro, .int (b2i ly)]))] ∧ va_S A s.heap H locs ∧ lv_has ls 11 [(0, .ref bM), (1, .int (b2i bs)), (2, .long jw), (4, .int (b2i bw)), (5, .int iq), (6, .int im), (7, .int x)]) (fun x ls => F0 m 32 ls []) (fun x ls => F0 m 49 ls []) ?_ ?_ H locs ls ⟨hP.sub [0] rfl, hD.sub [0] (by decide) rfl, hS, lv_sub hl [1, 2, 3, 4, 5, 6, 0] rfl⟩
      · skip
        rintro v32_0 hex hbk H locs ls ⟨hP, hD, hS, hl⟩
        have hP : va_P (dC, dI) classes [(bM, .inr (3, [.int cd, .int wd, .ref bT, .ref bF, .int al, .ref bN, .ref bP, .ref bQ, .ref bR, .int sz1, .int un, .int (b2i mo), .int tl, .int (b2i sp), .int tpo, .long fro, .int (b2i ly)]))] H := hP
        have hD : va_D A [(bM, .inr (3, [.int cd, .int wd, .ref bT, .ref bF, .int al, .ref bN, .ref bP, .ref bQ, .ref bR, .int sz1, .int un, .int (b2i mo), .int tl, .int (b2i sp), .int tpo, .long fro, .int (b2i ly)]))] := hD
        have hl : lv_has ls 11 [(0, .ref bM), (1, .int (b2i bs)), (2, .long jw), (4, .int (b2i bw)), (5, .int iq), (6, .int im), (7, .int v32_0)] := hl
        refine lv_lload_n hx hb d_M_put_32 rfl (lv_at hl 2 rfl) ?_
        refine lv_iload hx hb d_M_put_33 (lv_at hl 6 rfl) ?_
        refine lv_lshr (v := (aR jw v32_0)) hx hb d_M_put_35 rfl ?_
        refine lv_lconst (v := 1) hx hb d_M_put_36 (by decide) ?_
        refine lv_land hx hb d_M_put_37 ?_
        refine lv_lconst (v := 0) hx hb d_M_put_38 (by decide) ?_
        refine W.lcmp hx hb d_M_put_39 ?_
        refine lv_if_ne (tgt := 49) hx hb d_M_put_40 (by decide) (fun c_40 => ?_) (fun c_40 => ?_)
        · skip
          have c_40 : ¬ ((aR jw v32_0) &&& 1) = 0 := fun h9 => c_40 ((lg_cmp_eq _ _).mpr h9)
          exact hex (by clear hP hD hl hS; unfold nx_M_put_32; (try dsimp only); rw [if_neg c_40]) H locs ls ⟨hP.sub [0] rfl, hD.sub [0] (by decide) rfl, hS, lv_sub hl [0, 1, 2, 3, 4, 5, 6] rfl⟩
        · skip
          have c_40 : ((aR jw v32_0) &&& 1) = 0 := (lg_cmp_eq _ _).mp c_40
          refine lv_iinc (v := (v32_0 + (-1))) (lv' := [(7, .int (v32_0 + (-1))), (0, .ref bM), (1, .int (b2i bs)), (2, .long jw), (4, .int (b2i bw)), (5, .int iq), (6, .int im)]) hx hb d_M_put_43 hl (k := 6) rfl rfl (by decide) rfl (fun ls hl => ?_)
          refine lv_goto (tgt := 32) hx hb d_M_put_46 (by decide) ?_
          exact hbk ((v32_0 + (-1))) (by clear hP hD hl hS; unfold nx_M_put_32; (try dsimp only); rw [if_pos c_40]) H locs ls ⟨hP.sub [0] rfl, hD.sub [0] (by decide) rfl, hS, lv_sub hl [1, 2, 3, 4, 5, 6, 0] rfl⟩
      · skip
        rintro v32_0 H locs ls ev ⟨hP, hD, hS, hl⟩
        have ev32_0 : (lrun (nx_M_put_32 jw) 64 (63)) = v32_0 := by rw [← ev]
        clear ev
        have hP : va_P (dC, dI) classes [(bM, .inr (3, [.int cd, .int wd, .ref bT, .ref bF, .int al, .ref bN, .ref bP, .ref bQ, .ref bR, .int sz1, .int un, .int (b2i mo), .int tl, .int (b2i sp), .int tpo, .long fro, .int (b2i ly)]))] H := hP
        have hD : va_D A [(bM, .inr (3, [.int cd, .int wd, .ref bT, .ref bF, .int al, .ref bN, .ref bP, .ref bQ, .ref bR, .int sz1, .int un, .int (b2i mo), .int tl, .int (b2i sp), .int tpo, .long fro, .int (b2i ly)]))] := hD
        have hl : lv_has ls 11 [(0, .ref bM), (1, .int (b2i bs)), (2, .long jw), (4, .int (b2i bw)), (5, .int iq), (6, .int im), (7, .int v32_0)] := hl
        refine lv_iload hx hb d_M_put_49 (lv_at hl 4 rfl) ?_
        refine lv_iload hx hb d_M_put_51 (lv_at hl 6 rfl) ?_
        refine lv_iadd hx hb d_M_put_53 ?_
        refine lv_sipush (v := 16383) hx hb d_M_put_54 (by decide) ?_
        refine lv_iadd hx hb d_M_put_57 ?_
        refine lv_iload hx hb d_M_put_58 (lv_at hl 5 rfl) ?_
        refine lv_iadd hx hb d_M_put_60 ?_
        refine lv_istore (lv' := [(8, .int (((iq + v32_0) + 16383) + im)), (0, .ref bM), (1, .int (b2i bs)), (2, .long jw), (4, .int (b2i bw)), (5, .int iq), (6, .int im), (7, .int v32_0)]) hx hb d_M_put_61 hl (by decide) rfl (fun ls hl => ?_)
        refine lv_iload hx hb d_M_put_63 (lv_at hl 4 rfl) ?_
        refine cut_join (X := Int64) 0 0 (fun (x : Int64) (H : Heap) (locs : List Loc) (ls : Array Slot) => (if bw = true then (-9223372036854775808) else (sL jw (63 - v32_0))) = x ∧ va_P (dC, dI) classes [(bM, .inr (3, [.int cd, .int wd, .ref bT, .ref bF, .int al, .ref bN, .ref bP, .ref bQ, .ref bR, .int sz1, .int un, .int (b2i mo), .int tl, .int (b2i sp), .int tpo, .long fro, .int (b2i ly)]))] H ∧ va_D A [(bM, .inr (3, [.int cd, .int wd, .ref bT, .ref bF, .int al, .ref bN, .ref bP, .ref bQ, .ref bR, .int sz1, .int un, .int (b2i mo), .int tl, .int (b2i sp), .int tpo, .long fro, .int (b2i ly)]))] ∧ va_S A s.heap H locs ∧ lv_has ls 11 [(0, .ref bM), (1, .int (b2i bs)), (2, .long jw), (4, .int (b2i bw)), (5, .int iq), (6, .int im), (7, .int v32_0), (8, .int (((iq + v32_0) + 16383) + im))]) (fun x ls => F0 m 81 ls [.long x]) ?_ (fun J81 => ?_)
        · skip
          rintro j81_0 H locs ls ⟨ej81_0, hP, hD, hS, hl⟩
          have ej81_0 : (if bw = true then (-9223372036854775808) else (sL jw (63 - v32_0))) = j81_0 := ej81_0
          have hP : va_P (dC, dI) classes [(bM, .inr (3, [.int cd, .int wd, .ref bT, .ref bF, .int al, .ref bN, .ref bP, .ref bQ, .ref bR, .int sz1, .int un, .int (b2i mo), .int tl, .int (b2i sp), .int tpo, .long fro, .int (b2i ly)]))] H := hP
          have hD : va_D A [(bM, .inr (3, [.int cd, .int wd, .ref bT, .ref bF, .int al, .ref bN, .ref bP, .ref bQ, .ref bR, .int sz1, .int un, .int (b2i mo), .int tl, .int (b2i sp), .int tpo, .long fro, .int (b2i ly)]))] := hD
          have hl : lv_has ls 11 [(0, .ref bM), (1, .int (b2i bs)), (2, .long jw), (4, .int (b2i bw)), (5, .int iq), (6, .int im), (7, .int v32_0), (8, .int (((iq + v32_0) + 16383) + im))] := hl
          refine lv_lstore (lv' := [(9, .long j81_0), (0, .ref bM), (1, .int (b2i bs)), (2, .long jw), (4, .int (b2i bw)), (5, .int iq), (6, .int im), (7, .int v32_0), (8, .int (((iq + v32_0) + 16383) + im))]) hx hb d_M_put_81 hl (by decide) rfl (fun ls hl => ?_)
          refine lv_iload hx hb d_M_put_83 (lv_at hl 8 rfl) ?_
          refine lv_if_le (tgt := 100) hx hb d_M_put_85 (by decide) (fun c_85 => ?_) (fun c_85 => ?_)
          · skip
            refine lv_aload_n hx hb d_M_put_100 rfl (lv_at hl 1 rfl) ?_
            refine lv_iload_n hx hb d_M_put_101 rfl (lv_at hl 2 rfl) ?_
            refine lv_iconst (v := 0) hx hb d_M_put_102 (by decide) ?_
            refine lv_lload_n hx hb d_M_put_103 rfl (lv_at hl 3 rfl) ?_
            refine lv_iload hx hb d_M_put_104 (lv_at hl 5 rfl) ?_
            refine lv_sipush (v := 16445) hx hb d_M_put_106 (by decide) ?_
            refine lv_iadd hx hb d_M_put_109 ?_
            refine lv_lshl (v := (sL jw (iq + 16445))) hx hb d_M_put_110 rfl ?_
            have hPc := hP.sub (ws' := [(bM, .inr (3, [.int cd, .int wd, .ref bT, .ref bF, .int al, .ref bN, .ref bP, .ref bQ, .ref bR, .int sz1, .int un, .int (b2i mo), .int tl, .int (b2i sp), .int tpo, .long fro, .int (b2i ly)]))]) [0] rfl
            have hDc := hD.sub (ws' := [(bM, .inr (3, [.int cd, .int wd, .ref bT, .ref bF, .int al, .ref bN, .ref bP, .ref bQ, .ref bR, .int sz1, .int un, .int (b2i mo), .int tl, .int (b2i sp), .int tpo, .long fro, .int (b2i ly)]))]) [0] (by decide) rfl
            have hKc := hK.sub (tys' := []) [] rfl
            have hFc := va_free (wc := [(bM, .inr (3, [.int cd, .int wd, .ref bT, .ref bF, .int al, .ref bN, .ref bP, .ref bQ, .ref bR, .int sz1, .int un, .int (b2i mo), .int tl, .int (b2i sp), .int tpo, .long fro, .int (b2i ly)]))]) hD hS hA [0] rfl
            refine cc_v (va_runV (As := [.int (b2i bs), .int 0, .long (sL jw (iq + 16445))]) (rest := []) ⟨hx, hb, hml, hown, htA⟩ (c_M_answer l dC dI bM bT bF bN bP bQ bR H.size cd wd al sz1 un mo tl sp tpo fro ly bs 0 (sL jw (iq + 16445))) (cwV 3 htA (gi_V k_288 k_289 k_290 k_263 (gi_code k_254)) rfl rfl rfl (by decide +kernel) ⟨Nat.le_of_ble_eq_true rfl, Nat.le_of_ble_eq_true rfl⟩) (pre_V hnw hPc hKc hDc (ci := 3) (q0 := 0) rfl rfl) rfl rfl hl.1 rfl (lv_room (Nat.le_of_ble_eq_true rfl)) d_M_put_111 ⟨Nat.le_of_ble_eq_true rfl, Nat.le_of_ble_eq_true rfl⟩) hS hFc hP hD [0] [] (wr := []) rfl rfl (by decide) (by decide) (fun H locs hP hD hS => ?_)
            have hP : va_P (dC, dI) classes [(bM, .inr (3, [.int cd, .int wd, .ref bT, .ref bF, .int al, .ref bN, .ref bP, .ref bQ, .ref bR, .int sz1, .int un, .int (b2i mo), .int tl, .int (b2i sp), .int (g_M_answer bs 0), .long (sL jw (iq + 16445)), .int (b2i ly)]))] H := hP
            have hD : va_D A [(bM, .inr (3, [.int cd, .int wd, .ref bT, .ref bF, .int al, .ref bN, .ref bP, .ref bQ, .ref bR, .int sz1, .int un, .int (b2i mo), .int tl, .int (b2i sp), .int (g_M_answer bs 0), .long (sL jw (iq + 16445)), .int (b2i ly)]))] := hD
            have hE : g_M_put bs jw bw iq im = ((g_M_answer bs 0), (sL jw (iq + 16445))) := by clear hP hD hl hS; subst ej81_0; subst ev32_0; unfold g_M_put; (try dsimp only); rw [if_neg c_3, if_neg c_25, if_pos c_85]
            have hP9 : va_P (dC, dI) classes [(bM, .inr (3, [.int cd, .int wd, .ref bT, .ref bF, .int al, .ref bN, .ref bP, .ref bQ, .ref bR, .int sz1, .int un, .int (b2i mo), .int tl, .int (b2i sp), .int ((g_M_put bs jw bw iq im).1), .long ((g_M_put bs jw bw iq im).2), .int (b2i ly)]))] H := by rw [hE]; exact hP.sub [0] rfl
            have hD9 : va_D A [(bM, .inr (3, [.int cd, .int wd, .ref bT, .ref bF, .int al, .ref bN, .ref bP, .ref bQ, .ref bR, .int sz1, .int un, .int (b2i mo), .int tl, .int (b2i sp), .int ((g_M_put bs jw bw iq im).1), .long ((g_M_put bs jw bw iq im).2), .int (b2i ly)]))] := by rw [hE]; exact hD.sub [0] (by decide) rfl
            exact W.vret hx hb hr (fun t ht hW => ⟨⟨(), rfl, trivial, by rw [ht]; exact hP9, hD9⟩, hS.F ht⟩) hS.2.2 d_M_put_114
          · skip
            refine lv_aload_n hx hb d_M_put_88 rfl (lv_at hl 1 rfl) ?_
            refine lv_iload_n hx hb d_M_put_89 rfl (lv_at hl 2 rfl) ?_
            refine lv_iload hx hb d_M_put_90 (lv_at hl 8 rfl) ?_
            refine lv_lload hx hb d_M_put_92 (lv_at hl 0 rfl) ?_
            have hPc := hP.sub (ws' := [(bM, .inr (3, [.int cd, .int wd, .ref bT, .ref bF, .int al, .ref bN, .ref bP, .ref bQ, .ref bR, .int sz1, .int un, .int (b2i mo), .int tl, .int (b2i sp), .int tpo, .long fro, .int (b2i ly)]))]) [0] rfl
            have hDc := hD.sub (ws' := [(bM, .inr (3, [.int cd, .int wd, .ref bT, .ref bF, .int al, .ref bN, .ref bP, .ref bQ, .ref bR, .int sz1, .int un, .int (b2i mo), .int tl, .int (b2i sp), .int tpo, .long fro, .int (b2i ly)]))]) [0] (by decide) rfl
            have hKc := hK.sub (tys' := []) [] rfl
            have hFc := va_free (wc := [(bM, .inr (3, [.int cd, .int wd, .ref bT, .ref bF, .int al, .ref bN, .ref bP, .ref bQ, .ref bR, .int sz1, .int un, .int (b2i mo), .int tl, .int (b2i sp), .int tpo, .long fro, .int (b2i ly)]))]) hD hS hA [0] rfl
            refine cc_v (va_runV (As := [.int (b2i bs), .int (((iq + v32_0) + 16383) + im), .long j81_0]) (rest := []) ⟨hx, hb, hml, hown, htA⟩ (c_M_answer l dC dI bM bT bF bN bP bQ bR H.size cd wd al sz1 un mo tl sp tpo fro ly bs (((iq + v32_0) + 16383) + im) j81_0) (cwV 3 htA (gi_V k_288 k_289 k_290 k_263 (gi_code k_254)) rfl rfl rfl (by decide +kernel) ⟨Nat.le_of_ble_eq_true rfl, Nat.le_of_ble_eq_true rfl⟩) (pre_V hnw hPc hKc hDc (ci := 3) (q0 := 0) rfl rfl) rfl rfl hl.1 rfl (lv_room (Nat.le_of_ble_eq_true rfl)) d_M_put_94 ⟨Nat.le_of_ble_eq_true rfl, Nat.le_of_ble_eq_true rfl⟩) hS hFc hP hD [0] [] (wr := []) rfl rfl (by decide) (by decide) (fun H locs hP hD hS => ?_)
            have hP : va_P (dC, dI) classes [(bM, .inr (3, [.int cd, .int wd, .ref bT, .ref bF, .int al, .ref bN, .ref bP, .ref bQ, .ref bR, .int sz1, .int un, .int (b2i mo), .int tl, .int (b2i sp), .int (g_M_answer bs (((iq + v32_0) + 16383) + im)), .long j81_0, .int (b2i ly)]))] H := hP
            have hD : va_D A [(bM, .inr (3, [.int cd, .int wd, .ref bT, .ref bF, .int al, .ref bN, .ref bP, .ref bQ, .ref bR, .int sz1, .int un, .int (b2i mo), .int tl, .int (b2i sp), .int (g_M_answer bs (((iq + v32_0) + 16383) + im)), .long j81_0, .int (b2i ly)]))] := hD
            refine lv_goto (tgt := 114) hx hb d_M_put_97 (by decide) ?_
            have hE : g_M_put bs jw bw iq im = ((g_M_answer bs (((iq + v32_0) + 16383) + im)), j81_0) := by clear hP hD hl hS; subst ej81_0; subst ev32_0; unfold g_M_put; (try dsimp only); rw [if_neg c_3, if_neg c_25, if_neg c_85]
            have hP9 : va_P (dC, dI) classes [(bM, .inr (3, [.int cd, .int wd, .ref bT, .ref bF, .int al, .ref bN, .ref bP, .ref bQ, .ref bR, .int sz1, .int un, .int (b2i mo), .int tl, .int (b2i sp), .int ((g_M_put bs jw bw iq im).1), .long ((g_M_put bs jw bw iq im).2), .int (b2i ly)]))] H := by rw [hE]; exact hP.sub [0] rfl
            have hD9 : va_D A [(bM, .inr (3, [.int cd, .int wd, .ref bT, .ref bF, .int al, .ref bN, .ref bP, .ref bQ, .ref bR, .int sz1, .int un, .int (b2i mo), .int tl, .int (b2i sp), .int ((g_M_put bs jw bw iq im).1), .long ((g_M_put bs jw bw iq im).2), .int (b2i ly)]))] := by rw [hE]; exact hD.sub [0] (by decide) rfl
            exact W.vret hx hb hr (fun t ht hW => ⟨⟨(), rfl, trivial, by rw [ht]; exact hP9, hD9⟩, hS.F ht⟩) hS.2.2 d_M_put_114
        · skip
          refine lv_if_eq (tgt := 74) hx hb d_M_put_65 (by decide) (fun c_65 => ?_) (fun c_65 => ?_)
          · skip
            have c_65 : ¬ bw = true := b2i_z c_65
            refine lv_lload_n hx hb d_M_put_74 rfl (lv_at hl 3 rfl) ?_
            refine lv_bipush (v := 63) hx hb d_M_put_75 (by decide) ?_
            refine lv_iload hx hb d_M_put_77 (lv_at hl 7 rfl) ?_
            refine lv_isub hx hb d_M_put_79 ?_
            refine lv_lshl (v := (sL jw (63 - v32_0))) hx hb d_M_put_80 rfl ?_
            exact J81 ((sL jw (63 - v32_0))) H locs ls ⟨by clear hP hD hl hS; (try dsimp only); rw [if_neg c_65], hP.sub [0] rfl, hD.sub [0] (by decide) rfl, hS, lv_sub hl [1, 2, 3, 4, 5, 6, 7, 0] rfl⟩
          · skip
            have c_65 : bw = true := b2i_nz c_65
            refine lv_ldc2 (v := (-9223372036854775808)) hx hb hown (htA _ k_287) d_M_put_68 ?_
            refine lv_goto (tgt := 81) hx hb d_M_put_71 (by decide) ?_
            exact J81 ((-9223372036854775808)) H locs ls ⟨by clear hP hD hl hS; (try dsimp only); rw [if_pos c_65], hP.sub [0] rfl, hD.sub [0] (by decide) rfl, hS, lv_sub hl [1, 2, 3, 4, 5, 6, 7, 0] rfl⟩
  · skip
    have c_3 : jw = 0 := (lg_cmp_eq _ _).mp c_3
    refine lv_iload hx hb d_M_put_6 (lv_at hl 3 rfl) ?_
    refine lv_if_ne (tgt := 19) hx hb d_M_put_8 (by decide) (fun c_8 => ?_) (fun c_8 => ?_)
    · skip
      have c_8 : bw = true := b2i_nz c_8
      refine lv_bipush (v := 64) hx hb d_M_put_19 (by decide) ?_
      refine lv_istore (lv' := [(7, .int 64), (0, .ref bM), (1, .int (b2i bs)), (2, .long jw), (4, .int (b2i bw)), (5, .int iq), (6, .int im)]) hx hb d_M_put_21 hl (by decide) rfl (fun ls hl => ?_)
      refine lv_iload hx hb d_M_put_23 (lv_at hl 4 rfl) ?_
      refine lv_if_ne (tgt := 49) hx hb d_M_put_25 (by decide) (fun c_25 => ?_) (fun c_25 => ?_)
      · skip
        have c_25 : bw = true := b2i_nz c_25
        refine lv_iload hx hb d_M_put_49 (lv_at hl 5 rfl) ?_
        refine lv_iload hx hb d_M_put_51 (lv_at hl 0 rfl) ?_
        refine lv_iadd hx hb d_M_put_53 ?_
        refine lv_sipush (v := 16383) hx hb d_M_put_54 (by decide) ?_
        refine lv_iadd hx hb d_M_put_57 ?_
        refine lv_iload hx hb d_M_put_58 (lv_at hl 6 rfl) ?_
        refine lv_iadd hx hb d_M_put_60 ?_
        refine lv_istore (lv' := [(8, .int (((iq + 64) + 16383) + im)), (7, .int 64), (0, .ref bM), (1, .int (b2i bs)), (2, .long jw), (4, .int (b2i bw)), (5, .int iq), (6, .int im)]) hx hb d_M_put_61 hl (by decide) rfl (fun ls hl => ?_)
        refine lv_iload hx hb d_M_put_63 (lv_at hl 5 rfl) ?_
        refine cut_join (X := Int64) 0 0 (fun (x : Int64) (H : Heap) (locs : List Loc) (ls : Array Slot) => (if bw = true then (-9223372036854775808) else (sL jw (63 - 64))) = x ∧ va_P (dC, dI) classes [(bM, .inr (3, [.int cd, .int wd, .ref bT, .ref bF, .int al, .ref bN, .ref bP, .ref bQ, .ref bR, .int sz1, .int un, .int (b2i mo), .int tl, .int (b2i sp), .int tpo, .long fro, .int (b2i ly)]))] H ∧ va_D A [(bM, .inr (3, [.int cd, .int wd, .ref bT, .ref bF, .int al, .ref bN, .ref bP, .ref bQ, .ref bR, .int sz1, .int un, .int (b2i mo), .int tl, .int (b2i sp), .int tpo, .long fro, .int (b2i ly)]))] ∧ va_S A s.heap H locs ∧ lv_has ls 11 [(0, .ref bM), (1, .int (b2i bs)), (2, .long jw), (4, .int (b2i bw)), (5, .int iq), (6, .int im), (7, .int 64), (8, .int (((iq + 64) + 16383) + im))]) (fun x ls => F0 m 81 ls [.long x]) ?_ (fun J81 => ?_)
        · skip
          rintro j81_0 H locs ls ⟨ej81_0, hP, hD, hS, hl⟩
          have ej81_0 : (if bw = true then (-9223372036854775808) else (sL jw (63 - 64))) = j81_0 := ej81_0
          have hP : va_P (dC, dI) classes [(bM, .inr (3, [.int cd, .int wd, .ref bT, .ref bF, .int al, .ref bN, .ref bP, .ref bQ, .ref bR, .int sz1, .int un, .int (b2i mo), .int tl, .int (b2i sp), .int tpo, .long fro, .int (b2i ly)]))] H := hP
          have hD : va_D A [(bM, .inr (3, [.int cd, .int wd, .ref bT, .ref bF, .int al, .ref bN, .ref bP, .ref bQ, .ref bR, .int sz1, .int un, .int (b2i mo), .int tl, .int (b2i sp), .int tpo, .long fro, .int (b2i ly)]))] := hD
          have hl : lv_has ls 11 [(0, .ref bM), (1, .int (b2i bs)), (2, .long jw), (4, .int (b2i bw)), (5, .int iq), (6, .int im), (7, .int 64), (8, .int (((iq + 64) + 16383) + im))] := hl
          refine lv_lstore (lv' := [(9, .long j81_0), (0, .ref bM), (1, .int (b2i bs)), (2, .long jw), (4, .int (b2i bw)), (5, .int iq), (6, .int im), (7, .int 64), (8, .int (((iq + 64) + 16383) + im))]) hx hb d_M_put_81 hl (by decide) rfl (fun ls hl => ?_)
          refine lv_iload hx hb d_M_put_83 (lv_at hl 8 rfl) ?_
          refine lv_if_le (tgt := 100) hx hb d_M_put_85 (by decide) (fun c_85 => ?_) (fun c_85 => ?_)
          · skip
            refine lv_aload_n hx hb d_M_put_100 rfl (lv_at hl 1 rfl) ?_
            refine lv_iload_n hx hb d_M_put_101 rfl (lv_at hl 2 rfl) ?_
            refine lv_iconst (v := 0) hx hb d_M_put_102 (by decide) ?_
            refine lv_lload_n hx hb d_M_put_103 rfl (lv_at hl 3 rfl) ?_
            refine lv_iload hx hb d_M_put_104 (lv_at hl 5 rfl) ?_
            refine lv_sipush (v := 16445) hx hb d_M_put_106 (by decide) ?_
            refine lv_iadd hx hb d_M_put_109 ?_
            refine lv_lshl (v := (sL jw (iq + 16445))) hx hb d_M_put_110 rfl ?_
            have hPc := hP.sub (ws' := [(bM, .inr (3, [.int cd, .int wd, .ref bT, .ref bF, .int al, .ref bN, .ref bP, .ref bQ, .ref bR, .int sz1, .int un, .int (b2i mo), .int tl, .int (b2i sp), .int tpo, .long fro, .int (b2i ly)]))]) [0] rfl
            have hDc := hD.sub (ws' := [(bM, .inr (3, [.int cd, .int wd, .ref bT, .ref bF, .int al, .ref bN, .ref bP, .ref bQ, .ref bR, .int sz1, .int un, .int (b2i mo), .int tl, .int (b2i sp), .int tpo, .long fro, .int (b2i ly)]))]) [0] (by decide) rfl
            have hKc := hK.sub (tys' := []) [] rfl
            have hFc := va_free (wc := [(bM, .inr (3, [.int cd, .int wd, .ref bT, .ref bF, .int al, .ref bN, .ref bP, .ref bQ, .ref bR, .int sz1, .int un, .int (b2i mo), .int tl, .int (b2i sp), .int tpo, .long fro, .int (b2i ly)]))]) hD hS hA [0] rfl
            refine cc_v (va_runV (As := [.int (b2i bs), .int 0, .long (sL jw (iq + 16445))]) (rest := []) ⟨hx, hb, hml, hown, htA⟩ (c_M_answer l dC dI bM bT bF bN bP bQ bR H.size cd wd al sz1 un mo tl sp tpo fro ly bs 0 (sL jw (iq + 16445))) (cwV 3 htA (gi_V k_288 k_289 k_290 k_263 (gi_code k_254)) rfl rfl rfl (by decide +kernel) ⟨Nat.le_of_ble_eq_true rfl, Nat.le_of_ble_eq_true rfl⟩) (pre_V hnw hPc hKc hDc (ci := 3) (q0 := 0) rfl rfl) rfl rfl hl.1 rfl (lv_room (Nat.le_of_ble_eq_true rfl)) d_M_put_111 ⟨Nat.le_of_ble_eq_true rfl, Nat.le_of_ble_eq_true rfl⟩) hS hFc hP hD [0] [] (wr := []) rfl rfl (by decide) (by decide) (fun H locs hP hD hS => ?_)
            have hP : va_P (dC, dI) classes [(bM, .inr (3, [.int cd, .int wd, .ref bT, .ref bF, .int al, .ref bN, .ref bP, .ref bQ, .ref bR, .int sz1, .int un, .int (b2i mo), .int tl, .int (b2i sp), .int (g_M_answer bs 0), .long (sL jw (iq + 16445)), .int (b2i ly)]))] H := hP
            have hD : va_D A [(bM, .inr (3, [.int cd, .int wd, .ref bT, .ref bF, .int al, .ref bN, .ref bP, .ref bQ, .ref bR, .int sz1, .int un, .int (b2i mo), .int tl, .int (b2i sp), .int (g_M_answer bs 0), .long (sL jw (iq + 16445)), .int (b2i ly)]))] := hD
            have hE : g_M_put bs jw bw iq im = ((g_M_answer bs 0), (sL jw (iq + 16445))) := by clear hP hD hl hS; subst ej81_0; unfold g_M_put; (try dsimp only); rw [if_pos c_3, if_pos c_8, if_pos c_25, if_pos c_85]
            have hP9 : va_P (dC, dI) classes [(bM, .inr (3, [.int cd, .int wd, .ref bT, .ref bF, .int al, .ref bN, .ref bP, .ref bQ, .ref bR, .int sz1, .int un, .int (b2i mo), .int tl, .int (b2i sp), .int ((g_M_put bs jw bw iq im).1), .long ((g_M_put bs jw bw iq im).2), .int (b2i ly)]))] H := by rw [hE]; exact hP.sub [0] rfl
            have hD9 : va_D A [(bM, .inr (3, [.int cd, .int wd, .ref bT, .ref bF, .int al, .ref bN, .ref bP, .ref bQ, .ref bR, .int sz1, .int un, .int (b2i mo), .int tl, .int (b2i sp), .int ((g_M_put bs jw bw iq im).1), .long ((g_M_put bs jw bw iq im).2), .int (b2i ly)]))] := by rw [hE]; exact hD.sub [0] (by decide) rfl
            exact W.vret hx hb hr (fun t ht hW => ⟨⟨(), rfl, trivial, by rw [ht]; exact hP9, hD9⟩, hS.F ht⟩) hS.2.2 d_M_put_114
          · skip
            refine lv_aload_n hx hb d_M_put_88 rfl (lv_at hl 1 rfl) ?_
            refine lv_iload_n hx hb d_M_put_89 rfl (lv_at hl 2 rfl) ?_
            refine lv_iload hx hb d_M_put_90 (lv_at hl 8 rfl) ?_
            refine lv_lload hx hb d_M_put_92 (lv_at hl 0 rfl) ?_
            have hPc := hP.sub (ws' := [(bM, .inr (3, [.int cd, .int wd, .ref bT, .ref bF, .int al, .ref bN, .ref bP, .ref bQ, .ref bR, .int sz1, .int un, .int (b2i mo), .int tl, .int (b2i sp), .int tpo, .long fro, .int (b2i ly)]))]) [0] rfl
            have hDc := hD.sub (ws' := [(bM, .inr (3, [.int cd, .int wd, .ref bT, .ref bF, .int al, .ref bN, .ref bP, .ref bQ, .ref bR, .int sz1, .int un, .int (b2i mo), .int tl, .int (b2i sp), .int tpo, .long fro, .int (b2i ly)]))]) [0] (by decide) rfl
            have hKc := hK.sub (tys' := []) [] rfl
            have hFc := va_free (wc := [(bM, .inr (3, [.int cd, .int wd, .ref bT, .ref bF, .int al, .ref bN, .ref bP, .ref bQ, .ref bR, .int sz1, .int un, .int (b2i mo), .int tl, .int (b2i sp), .int tpo, .long fro, .int (b2i ly)]))]) hD hS hA [0] rfl
            refine cc_v (va_runV (As := [.int (b2i bs), .int (((iq + 64) + 16383) + im), .long j81_0]) (rest := []) ⟨hx, hb, hml, hown, htA⟩ (c_M_answer l dC dI bM bT bF bN bP bQ bR H.size cd wd al sz1 un mo tl sp tpo fro ly bs (((iq + 64) + 16383) + im) j81_0) (cwV 3 htA (gi_V k_288 k_289 k_290 k_263 (gi_code k_254)) rfl rfl rfl (by decide +kernel) ⟨Nat.le_of_ble_eq_true rfl, Nat.le_of_ble_eq_true rfl⟩) (pre_V hnw hPc hKc hDc (ci := 3) (q0 := 0) rfl rfl) rfl rfl hl.1 rfl (lv_room (Nat.le_of_ble_eq_true rfl)) d_M_put_94 ⟨Nat.le_of_ble_eq_true rfl, Nat.le_of_ble_eq_true rfl⟩) hS hFc hP hD [0] [] (wr := []) rfl rfl (by decide) (by decide) (fun H locs hP hD hS => ?_)
            have hP : va_P (dC, dI) classes [(bM, .inr (3, [.int cd, .int wd, .ref bT, .ref bF, .int al, .ref bN, .ref bP, .ref bQ, .ref bR, .int sz1, .int un, .int (b2i mo), .int tl, .int (b2i sp), .int (g_M_answer bs (((iq + 64) + 16383) + im)), .long j81_0, .int (b2i ly)]))] H := hP
            have hD : va_D A [(bM, .inr (3, [.int cd, .int wd, .ref bT, .ref bF, .int al, .ref bN, .ref bP, .ref bQ, .ref bR, .int sz1, .int un, .int (b2i mo), .int tl, .int (b2i sp), .int (g_M_answer bs (((iq + 64) + 16383) + im)), .long j81_0, .int (b2i ly)]))] := hD
            refine lv_goto (tgt := 114) hx hb d_M_put_97 (by decide) ?_
            have hE : g_M_put bs jw bw iq im = ((g_M_answer bs (((iq + 64) + 16383) + im)), j81_0) := by clear hP hD hl hS; subst ej81_0; unfold g_M_put; (try dsimp only); rw [if_pos c_3, if_pos c_8, if_pos c_25, if_neg c_85]
            have hP9 : va_P (dC, dI) classes [(bM, .inr (3, [.int cd, .int wd, .ref bT, .ref bF, .int al, .ref bN, .ref bP, .ref bQ, .ref bR, .int sz1, .int un, .int (b2i mo), .int tl, .int (b2i sp), .int ((g_M_put bs jw bw iq im).1), .long ((g_M_put bs jw bw iq im).2), .int (b2i ly)]))] H := by rw [hE]; exact hP.sub [0] rfl
            have hD9 : va_D A [(bM, .inr (3, [.int cd, .int wd, .ref bT, .ref bF, .int al, .ref bN, .ref bP, .ref bQ, .ref bR, .int sz1, .int un, .int (b2i mo), .int tl, .int (b2i sp), .int ((g_M_put bs jw bw iq im).1), .long ((g_M_put bs jw bw iq im).2), .int (b2i ly)]))] := by rw [hE]; exact hD.sub [0] (by decide) rfl
            exact W.vret hx hb hr (fun t ht hW => ⟨⟨(), rfl, trivial, by rw [ht]; exact hP9, hD9⟩, hS.F ht⟩) hS.2.2 d_M_put_114
        · skip
          refine lv_if_eq (tgt := 74) hx hb d_M_put_65 (by decide) (fun c_65 => ?_) (fun c_65 => ?_)
          · skip
            have c_65 : ¬ bw = true := b2i_z c_65
            refine lv_lload_n hx hb d_M_put_74 rfl (lv_at hl 4 rfl) ?_
            refine lv_bipush (v := 63) hx hb d_M_put_75 (by decide) ?_
            refine lv_iload hx hb d_M_put_77 (lv_at hl 1 rfl) ?_
            refine lv_isub hx hb d_M_put_79 ?_
            refine lv_lshl (v := (sL jw (63 - 64))) hx hb d_M_put_80 rfl ?_
            exact J81 ((sL jw (63 - 64))) H locs ls ⟨by clear hP hD hl hS; (try dsimp only); rw [if_neg c_65], hP.sub [0] rfl, hD.sub [0] (by decide) rfl, hS, lv_sub hl [2, 3, 4, 5, 6, 7, 1, 0] rfl⟩
          · skip
            have c_65 : bw = true := b2i_nz c_65
            refine lv_ldc2 (v := (-9223372036854775808)) hx hb hown (htA _ k_287) d_M_put_68 ?_
            refine lv_goto (tgt := 81) hx hb d_M_put_71 (by decide) ?_
            exact J81 ((-9223372036854775808)) H locs ls ⟨by clear hP hD hl hS; (try dsimp only); rw [if_pos c_65], hP.sub [0] rfl, hD.sub [0] (by decide) rfl, hS, lv_sub hl [2, 3, 4, 5, 6, 7, 1, 0] rfl⟩
      · skip
        have c_25 : ¬ bw = true := b2i_z c_25
        refine lv_bipush (v := 63) hx hb d_M_put_28 (by decide) ?_
        refine lv_istore (lv' := [(7, .int 63), (0, .ref bM), (1, .int (b2i bs)), (2, .long jw), (4, .int (b2i bw)), (5, .int iq), (6, .int im)]) hx hb d_M_put_30 hl (by decide) rfl (fun ls hl => ?_)
        refine loop_cut (S := Int32) (nx_M_put_32 jw) 64 (63) (M_put_end jw (by first | assumption | exact absurd (by assumption) c_25)) 0 0 (fun (x : Int32) (H : Heap) (locs : List Loc) (ls : Array Slot) => va_P (dC, dI) classes [(bM, .inr (3, [.int cd, .int wd, .ref bT, .ref bF, .int al, .ref bN, .ref bP, .ref bQ, .ref bR, .int sz1, .int un, .int (b2i mo), .int tl, .int (b2i sp), .int tpo, .long fro, .int (b2i ly)]))] H ∧ va_D A [(bM, .inr (3, [.int cd, .int wd, .ref bT, .ref bF, .int al, .ref bN, .ref bP, .ref bQ, .ref bR, .int sz1, .int un, .int (b2i mo), .int tl, .int (b2i sp), .int tpo, .long fro, .int (b2i ly)]))] ∧ va_S A s.heap H locs ∧ lv_has ls 11 [(0, .ref bM), (1, .int (b2i bs)), (2, .long jw), (4, .int (b2i bw)), (5, .int iq), (6, .int im), (7, .int x)]) (fun x ls => F0 m 32 ls []) (fun x ls => F0 m 49 ls []) ?_ ?_ H locs ls ⟨hP.sub [0] rfl, hD.sub [0] (by decide) rfl, hS, lv_sub hl [1, 2, 3, 4, 5, 6, 0] rfl⟩
        · skip
          rintro v32_0 hex hbk H locs ls ⟨hP, hD, hS, hl⟩
          have hP : va_P (dC, dI) classes [(bM, .inr (3, [.int cd, .int wd, .ref bT, .ref bF, .int al, .ref bN, .ref bP, .ref bQ, .ref bR, .int sz1, .int un, .int (b2i mo), .int tl, .int (b2i sp), .int tpo, .long fro, .int (b2i ly)]))] H := hP
          have hD : va_D A [(bM, .inr (3, [.int cd, .int wd, .ref bT, .ref bF, .int al, .ref bN, .ref bP, .ref bQ, .ref bR, .int sz1, .int un, .int (b2i mo), .int tl, .int (b2i sp), .int tpo, .long fro, .int (b2i ly)]))] := hD
          have hl : lv_has ls 11 [(0, .ref bM), (1, .int (b2i bs)), (2, .long jw), (4, .int (b2i bw)), (5, .int iq), (6, .int im), (7, .int v32_0)] := hl
          refine lv_lload_n hx hb d_M_put_32 rfl (lv_at hl 2 rfl) ?_
          refine lv_iload hx hb d_M_put_33 (lv_at hl 6 rfl) ?_
          refine lv_lshr (v := (aR jw v32_0)) hx hb d_M_put_35 rfl ?_
          refine lv_lconst (v := 1) hx hb d_M_put_36 (by decide) ?_
          refine lv_land hx hb d_M_put_37 ?_
          refine lv_lconst (v := 0) hx hb d_M_put_38 (by decide) ?_
          refine W.lcmp hx hb d_M_put_39 ?_
          refine lv_if_ne (tgt := 49) hx hb d_M_put_40 (by decide) (fun c_40 => ?_) (fun c_40 => ?_)
          · skip
            have c_40 : ¬ ((aR jw v32_0) &&& 1) = 0 := fun h9 => c_40 ((lg_cmp_eq _ _).mpr h9)
            exact hex (by clear hP hD hl hS; unfold nx_M_put_32; (try dsimp only); rw [if_neg c_40]) H locs ls ⟨hP.sub [0] rfl, hD.sub [0] (by decide) rfl, hS, lv_sub hl [0, 1, 2, 3, 4, 5, 6] rfl⟩
          · skip
            have c_40 : ((aR jw v32_0) &&& 1) = 0 := (lg_cmp_eq _ _).mp c_40
            refine lv_iinc (v := (v32_0 + (-1))) (lv' := [(7, .int (v32_0 + (-1))), (0, .ref bM), (1, .int (b2i bs)), (2, .long jw), (4, .int (b2i bw)), (5, .int iq), (6, .int im)]) hx hb d_M_put_43 hl (k := 6) rfl rfl (by decide) rfl (fun ls hl => ?_)
            refine lv_goto (tgt := 32) hx hb d_M_put_46 (by decide) ?_
            exact hbk ((v32_0 + (-1))) (by clear hP hD hl hS; unfold nx_M_put_32; (try dsimp only); rw [if_pos c_40]) H locs ls ⟨hP.sub [0] rfl, hD.sub [0] (by decide) rfl, hS, lv_sub hl [1, 2, 3, 4, 5, 6, 0] rfl⟩
        · skip
          rintro v32_0 H locs ls ev ⟨hP, hD, hS, hl⟩
          have ev32_0 : (lrun (nx_M_put_32 jw) 64 (63)) = v32_0 := by rw [← ev]
          clear ev
          have hP : va_P (dC, dI) classes [(bM, .inr (3, [.int cd, .int wd, .ref bT, .ref bF, .int al, .ref bN, .ref bP, .ref bQ, .ref bR, .int sz1, .int un, .int (b2i mo), .int tl, .int (b2i sp), .int tpo, .long fro, .int (b2i ly)]))] H := hP
          have hD : va_D A [(bM, .inr (3, [.int cd, .int wd, .ref bT, .ref bF, .int al, .ref bN, .ref bP, .ref bQ, .ref bR, .int sz1, .int un, .int (b2i mo), .int tl, .int (b2i sp), .int tpo, .long fro, .int (b2i ly)]))] := hD
          have hl : lv_has ls 11 [(0, .ref bM), (1, .int (b2i bs)), (2, .long jw), (4, .int (b2i bw)), (5, .int iq), (6, .int im), (7, .int v32_0)] := hl
          refine lv_iload hx hb d_M_put_49 (lv_at hl 4 rfl) ?_
          refine lv_iload hx hb d_M_put_51 (lv_at hl 6 rfl) ?_
          refine lv_iadd hx hb d_M_put_53 ?_
          refine lv_sipush (v := 16383) hx hb d_M_put_54 (by decide) ?_
          refine lv_iadd hx hb d_M_put_57 ?_
          refine lv_iload hx hb d_M_put_58 (lv_at hl 5 rfl) ?_
          refine lv_iadd hx hb d_M_put_60 ?_
          refine lv_istore (lv' := [(8, .int (((iq + v32_0) + 16383) + im)), (0, .ref bM), (1, .int (b2i bs)), (2, .long jw), (4, .int (b2i bw)), (5, .int iq), (6, .int im), (7, .int v32_0)]) hx hb d_M_put_61 hl (by decide) rfl (fun ls hl => ?_)
          refine lv_iload hx hb d_M_put_63 (lv_at hl 4 rfl) ?_
          refine cut_join (X := Int64) 0 0 (fun (x : Int64) (H : Heap) (locs : List Loc) (ls : Array Slot) => (if bw = true then (-9223372036854775808) else (sL jw (63 - v32_0))) = x ∧ va_P (dC, dI) classes [(bM, .inr (3, [.int cd, .int wd, .ref bT, .ref bF, .int al, .ref bN, .ref bP, .ref bQ, .ref bR, .int sz1, .int un, .int (b2i mo), .int tl, .int (b2i sp), .int tpo, .long fro, .int (b2i ly)]))] H ∧ va_D A [(bM, .inr (3, [.int cd, .int wd, .ref bT, .ref bF, .int al, .ref bN, .ref bP, .ref bQ, .ref bR, .int sz1, .int un, .int (b2i mo), .int tl, .int (b2i sp), .int tpo, .long fro, .int (b2i ly)]))] ∧ va_S A s.heap H locs ∧ lv_has ls 11 [(0, .ref bM), (1, .int (b2i bs)), (2, .long jw), (4, .int (b2i bw)), (5, .int iq), (6, .int im), (7, .int v32_0), (8, .int (((iq + v32_0) + 16383) + im))]) (fun x ls => F0 m 81 ls [.long x]) ?_ (fun J81 => ?_)
          · skip
            rintro j81_0 H locs ls ⟨ej81_0, hP, hD, hS, hl⟩
            have ej81_0 : (if bw = true then (-9223372036854775808) else (sL jw (63 - v32_0))) = j81_0 := ej81_0
            have hP : va_P (dC, dI) classes [(bM, .inr (3, [.int cd, .int wd, .ref bT, .ref bF, .int al, .ref bN, .ref bP, .ref bQ, .ref bR, .int sz1, .int un, .int (b2i mo), .int tl, .int (b2i sp), .int tpo, .long fro, .int (b2i ly)]))] H := hP
            have hD : va_D A [(bM, .inr (3, [.int cd, .int wd, .ref bT, .ref bF, .int al, .ref bN, .ref bP, .ref bQ, .ref bR, .int sz1, .int un, .int (b2i mo), .int tl, .int (b2i sp), .int tpo, .long fro, .int (b2i ly)]))] := hD
            have hl : lv_has ls 11 [(0, .ref bM), (1, .int (b2i bs)), (2, .long jw), (4, .int (b2i bw)), (5, .int iq), (6, .int im), (7, .int v32_0), (8, .int (((iq + v32_0) + 16383) + im))] := hl
            refine lv_lstore (lv' := [(9, .long j81_0), (0, .ref bM), (1, .int (b2i bs)), (2, .long jw), (4, .int (b2i bw)), (5, .int iq), (6, .int im), (7, .int v32_0), (8, .int (((iq + v32_0) + 16383) + im))]) hx hb d_M_put_81 hl (by decide) rfl (fun ls hl => ?_)
            refine lv_iload hx hb d_M_put_83 (lv_at hl 8 rfl) ?_
            refine lv_if_le (tgt := 100) hx hb d_M_put_85 (by decide) (fun c_85 => ?_) (fun c_85 => ?_)
            · skip
              refine lv_aload_n hx hb d_M_put_100 rfl (lv_at hl 1 rfl) ?_
              refine lv_iload_n hx hb d_M_put_101 rfl (lv_at hl 2 rfl) ?_
              refine lv_iconst (v := 0) hx hb d_M_put_102 (by decide) ?_
              refine lv_lload_n hx hb d_M_put_103 rfl (lv_at hl 3 rfl) ?_
              refine lv_iload hx hb d_M_put_104 (lv_at hl 5 rfl) ?_
              refine lv_sipush (v := 16445) hx hb d_M_put_106 (by decide) ?_
              refine lv_iadd hx hb d_M_put_109 ?_
              refine lv_lshl (v := (sL jw (iq + 16445))) hx hb d_M_put_110 rfl ?_
              have hPc := hP.sub (ws' := [(bM, .inr (3, [.int cd, .int wd, .ref bT, .ref bF, .int al, .ref bN, .ref bP, .ref bQ, .ref bR, .int sz1, .int un, .int (b2i mo), .int tl, .int (b2i sp), .int tpo, .long fro, .int (b2i ly)]))]) [0] rfl
              have hDc := hD.sub (ws' := [(bM, .inr (3, [.int cd, .int wd, .ref bT, .ref bF, .int al, .ref bN, .ref bP, .ref bQ, .ref bR, .int sz1, .int un, .int (b2i mo), .int tl, .int (b2i sp), .int tpo, .long fro, .int (b2i ly)]))]) [0] (by decide) rfl
              have hKc := hK.sub (tys' := []) [] rfl
              have hFc := va_free (wc := [(bM, .inr (3, [.int cd, .int wd, .ref bT, .ref bF, .int al, .ref bN, .ref bP, .ref bQ, .ref bR, .int sz1, .int un, .int (b2i mo), .int tl, .int (b2i sp), .int tpo, .long fro, .int (b2i ly)]))]) hD hS hA [0] rfl
              refine cc_v (va_runV (As := [.int (b2i bs), .int 0, .long (sL jw (iq + 16445))]) (rest := []) ⟨hx, hb, hml, hown, htA⟩ (c_M_answer l dC dI bM bT bF bN bP bQ bR H.size cd wd al sz1 un mo tl sp tpo fro ly bs 0 (sL jw (iq + 16445))) (cwV 3 htA (gi_V k_288 k_289 k_290 k_263 (gi_code k_254)) rfl rfl rfl (by decide +kernel) ⟨Nat.le_of_ble_eq_true rfl, Nat.le_of_ble_eq_true rfl⟩) (pre_V hnw hPc hKc hDc (ci := 3) (q0 := 0) rfl rfl) rfl rfl hl.1 rfl (lv_room (Nat.le_of_ble_eq_true rfl)) d_M_put_111 ⟨Nat.le_of_ble_eq_true rfl, Nat.le_of_ble_eq_true rfl⟩) hS hFc hP hD [0] [] (wr := []) rfl rfl (by decide) (by decide) (fun H locs hP hD hS => ?_)
              have hP : va_P (dC, dI) classes [(bM, .inr (3, [.int cd, .int wd, .ref bT, .ref bF, .int al, .ref bN, .ref bP, .ref bQ, .ref bR, .int sz1, .int un, .int (b2i mo), .int tl, .int (b2i sp), .int (g_M_answer bs 0), .long (sL jw (iq + 16445)), .int (b2i ly)]))] H := hP
              have hD : va_D A [(bM, .inr (3, [.int cd, .int wd, .ref bT, .ref bF, .int al, .ref bN, .ref bP, .ref bQ, .ref bR, .int sz1, .int un, .int (b2i mo), .int tl, .int (b2i sp), .int (g_M_answer bs 0), .long (sL jw (iq + 16445)), .int (b2i ly)]))] := hD
              have hE : g_M_put bs jw bw iq im = ((g_M_answer bs 0), (sL jw (iq + 16445))) := by clear hP hD hl hS; subst ej81_0; subst ev32_0; unfold g_M_put; (try dsimp only); rw [if_pos c_3, if_pos c_8, if_neg c_25, if_pos c_85]
              have hP9 : va_P (dC, dI) classes [(bM, .inr (3, [.int cd, .int wd, .ref bT, .ref bF, .int al, .ref bN, .ref bP, .ref bQ, .ref bR, .int sz1, .int un, .int (b2i mo), .int tl, .int (b2i sp), .int ((g_M_put bs jw bw iq im).1), .long ((g_M_put bs jw bw iq im).2), .int (b2i ly)]))] H := by rw [hE]; exact hP.sub [0] rfl
              have hD9 : va_D A [(bM, .inr (3, [.int cd, .int wd, .ref bT, .ref bF, .int al, .ref bN, .ref bP, .ref bQ, .ref bR, .int sz1, .int un, .int (b2i mo), .int tl, .int (b2i sp), .int ((g_M_put bs jw bw iq im).1), .long ((g_M_put bs jw bw iq im).2), .int (b2i ly)]))] := by rw [hE]; exact hD.sub [0] (by decide) rfl
              exact W.vret hx hb hr (fun t ht hW => ⟨⟨(), rfl, trivial, by rw [ht]; exact hP9, hD9⟩, hS.F ht⟩) hS.2.2 d_M_put_114
            · skip
              refine lv_aload_n hx hb d_M_put_88 rfl (lv_at hl 1 rfl) ?_
              refine lv_iload_n hx hb d_M_put_89 rfl (lv_at hl 2 rfl) ?_
              refine lv_iload hx hb d_M_put_90 (lv_at hl 8 rfl) ?_
              refine lv_lload hx hb d_M_put_92 (lv_at hl 0 rfl) ?_
              have hPc := hP.sub (ws' := [(bM, .inr (3, [.int cd, .int wd, .ref bT, .ref bF, .int al, .ref bN, .ref bP, .ref bQ, .ref bR, .int sz1, .int un, .int (b2i mo), .int tl, .int (b2i sp), .int tpo, .long fro, .int (b2i ly)]))]) [0] rfl
              have hDc := hD.sub (ws' := [(bM, .inr (3, [.int cd, .int wd, .ref bT, .ref bF, .int al, .ref bN, .ref bP, .ref bQ, .ref bR, .int sz1, .int un, .int (b2i mo), .int tl, .int (b2i sp), .int tpo, .long fro, .int (b2i ly)]))]) [0] (by decide) rfl
              have hKc := hK.sub (tys' := []) [] rfl
              have hFc := va_free (wc := [(bM, .inr (3, [.int cd, .int wd, .ref bT, .ref bF, .int al, .ref bN, .ref bP, .ref bQ, .ref bR, .int sz1, .int un, .int (b2i mo), .int tl, .int (b2i sp), .int tpo, .long fro, .int (b2i ly)]))]) hD hS hA [0] rfl
              refine cc_v (va_runV (As := [.int (b2i bs), .int (((iq + v32_0) + 16383) + im), .long j81_0]) (rest := []) ⟨hx, hb, hml, hown, htA⟩ (c_M_answer l dC dI bM bT bF bN bP bQ bR H.size cd wd al sz1 un mo tl sp tpo fro ly bs (((iq + v32_0) + 16383) + im) j81_0) (cwV 3 htA (gi_V k_288 k_289 k_290 k_263 (gi_code k_254)) rfl rfl rfl (by decide +kernel) ⟨Nat.le_of_ble_eq_true rfl, Nat.le_of_ble_eq_true rfl⟩) (pre_V hnw hPc hKc hDc (ci := 3) (q0 := 0) rfl rfl) rfl rfl hl.1 rfl (lv_room (Nat.le_of_ble_eq_true rfl)) d_M_put_94 ⟨Nat.le_of_ble_eq_true rfl, Nat.le_of_ble_eq_true rfl⟩) hS hFc hP hD [0] [] (wr := []) rfl rfl (by decide) (by decide) (fun H locs hP hD hS => ?_)
              have hP : va_P (dC, dI) classes [(bM, .inr (3, [.int cd, .int wd, .ref bT, .ref bF, .int al, .ref bN, .ref bP, .ref bQ, .ref bR, .int sz1, .int un, .int (b2i mo), .int tl, .int (b2i sp), .int (g_M_answer bs (((iq + v32_0) + 16383) + im)), .long j81_0, .int (b2i ly)]))] H := hP
              have hD : va_D A [(bM, .inr (3, [.int cd, .int wd, .ref bT, .ref bF, .int al, .ref bN, .ref bP, .ref bQ, .ref bR, .int sz1, .int un, .int (b2i mo), .int tl, .int (b2i sp), .int (g_M_answer bs (((iq + v32_0) + 16383) + im)), .long j81_0, .int (b2i ly)]))] := hD
              refine lv_goto (tgt := 114) hx hb d_M_put_97 (by decide) ?_
              have hE : g_M_put bs jw bw iq im = ((g_M_answer bs (((iq + v32_0) + 16383) + im)), j81_0) := by clear hP hD hl hS; subst ej81_0; subst ev32_0; unfold g_M_put; (try dsimp only); rw [if_pos c_3, if_pos c_8, if_neg c_25, if_neg c_85]
              have hP9 : va_P (dC, dI) classes [(bM, .inr (3, [.int cd, .int wd, .ref bT, .ref bF, .int al, .ref bN, .ref bP, .ref bQ, .ref bR, .int sz1, .int un, .int (b2i mo), .int tl, .int (b2i sp), .int ((g_M_put bs jw bw iq im).1), .long ((g_M_put bs jw bw iq im).2), .int (b2i ly)]))] H := by rw [hE]; exact hP.sub [0] rfl
              have hD9 : va_D A [(bM, .inr (3, [.int cd, .int wd, .ref bT, .ref bF, .int al, .ref bN, .ref bP, .ref bQ, .ref bR, .int sz1, .int un, .int (b2i mo), .int tl, .int (b2i sp), .int ((g_M_put bs jw bw iq im).1), .long ((g_M_put bs jw bw iq im).2), .int (b2i ly)]))] := by rw [hE]; exact hD.sub [0] (by decide) rfl
              exact W.vret hx hb hr (fun t ht hW => ⟨⟨(), rfl, trivial, by rw [ht]; exact hP9, hD9⟩, hS.F ht⟩) hS.2.2 d_M_put_114
          · skip
            refine lv_if_eq (tgt := 74) hx hb d_M_put_65 (by decide) (fun c_65 => ?_) (fun c_65 => ?_)
            · skip
              have c_65 : ¬ bw = true := b2i_z c_65
              refine lv_lload_n hx hb d_M_put_74 rfl (lv_at hl 3 rfl) ?_
              refine lv_bipush (v := 63) hx hb d_M_put_75 (by decide) ?_
              refine lv_iload hx hb d_M_put_77 (lv_at hl 7 rfl) ?_
              refine lv_isub hx hb d_M_put_79 ?_
              refine lv_lshl (v := (sL jw (63 - v32_0))) hx hb d_M_put_80 rfl ?_
              exact J81 ((sL jw (63 - v32_0))) H locs ls ⟨by clear hP hD hl hS; (try dsimp only); rw [if_neg c_65], hP.sub [0] rfl, hD.sub [0] (by decide) rfl, hS, lv_sub hl [1, 2, 3, 4, 5, 6, 7, 0] rfl⟩
            · skip
              have c_65 : bw = true := b2i_nz c_65
              refine lv_ldc2 (v := (-9223372036854775808)) hx hb hown (htA _ k_287) d_M_put_68 ?_
              refine lv_goto (tgt := 81) hx hb d_M_put_71 (by decide) ?_
              exact J81 ((-9223372036854775808)) H locs ls ⟨by clear hP hD hl hS; (try dsimp only); rw [if_pos c_65], hP.sub [0] rfl, hD.sub [0] (by decide) rfl, hS, lv_sub hl [1, 2, 3, 4, 5, 6, 7, 0] rfl⟩
    · skip
      have c_8 : ¬ bw = true := b2i_z c_8
      refine lv_aload_n hx hb d_M_put_11 rfl (lv_at hl 0 rfl) ?_
      refine lv_iload_n hx hb d_M_put_12 rfl (lv_at hl 1 rfl) ?_
      refine lv_iconst (v := 0) hx hb d_M_put_13 (by decide) ?_
      refine lv_lconst (v := 0) hx hb d_M_put_14 (by decide) ?_
      have hPc := hP.sub (ws' := [(bM, .inr (3, [.int cd, .int wd, .ref bT, .ref bF, .int al, .ref bN, .ref bP, .ref bQ, .ref bR, .int sz1, .int un, .int (b2i mo), .int tl, .int (b2i sp), .int tpo, .long fro, .int (b2i ly)]))]) [0] rfl
      have hDc := hD.sub (ws' := [(bM, .inr (3, [.int cd, .int wd, .ref bT, .ref bF, .int al, .ref bN, .ref bP, .ref bQ, .ref bR, .int sz1, .int un, .int (b2i mo), .int tl, .int (b2i sp), .int tpo, .long fro, .int (b2i ly)]))]) [0] (by decide) rfl
      have hKc := hK.sub (tys' := []) [] rfl
      have hFc := va_free (wc := [(bM, .inr (3, [.int cd, .int wd, .ref bT, .ref bF, .int al, .ref bN, .ref bP, .ref bQ, .ref bR, .int sz1, .int un, .int (b2i mo), .int tl, .int (b2i sp), .int tpo, .long fro, .int (b2i ly)]))]) hD hS hA [0] rfl
      refine cc_v (va_runV (As := [.int (b2i bs), .int 0, .long 0]) (rest := []) ⟨hx, hb, hml, hown, htA⟩ (c_M_answer l dC dI bM bT bF bN bP bQ bR H.size cd wd al sz1 un mo tl sp tpo fro ly bs 0 0) (cwV 3 htA (gi_V k_288 k_289 k_290 k_263 (gi_code k_254)) rfl rfl rfl (by decide +kernel) ⟨Nat.le_of_ble_eq_true rfl, Nat.le_of_ble_eq_true rfl⟩) (pre_V hnw hPc hKc hDc (ci := 3) (q0 := 0) rfl rfl) rfl rfl hl.1 rfl (lv_room (Nat.le_of_ble_eq_true rfl)) d_M_put_15 ⟨Nat.le_of_ble_eq_true rfl, Nat.le_of_ble_eq_true rfl⟩) hS hFc hP hD [0] [] (wr := []) rfl rfl (by decide) (by decide) (fun H locs hP hD hS => ?_)
      have hP : va_P (dC, dI) classes [(bM, .inr (3, [.int cd, .int wd, .ref bT, .ref bF, .int al, .ref bN, .ref bP, .ref bQ, .ref bR, .int sz1, .int un, .int (b2i mo), .int tl, .int (b2i sp), .int (g_M_answer bs 0), .long 0, .int (b2i ly)]))] H := hP
      have hD : va_D A [(bM, .inr (3, [.int cd, .int wd, .ref bT, .ref bF, .int al, .ref bN, .ref bP, .ref bQ, .ref bR, .int sz1, .int un, .int (b2i mo), .int tl, .int (b2i sp), .int (g_M_answer bs 0), .long 0, .int (b2i ly)]))] := hD
      have hE : g_M_put bs jw bw iq im = ((g_M_answer bs 0), 0) := by clear hP hD hl hS; unfold g_M_put; (try dsimp only); rw [if_pos c_3, if_neg c_8]
      have hP9 : va_P (dC, dI) classes [(bM, .inr (3, [.int cd, .int wd, .ref bT, .ref bF, .int al, .ref bN, .ref bP, .ref bQ, .ref bR, .int sz1, .int un, .int (b2i mo), .int tl, .int (b2i sp), .int ((g_M_put bs jw bw iq im).1), .long ((g_M_put bs jw bw iq im).2), .int (b2i ly)]))] H := by rw [hE]; exact hP.sub [0] rfl
      have hD9 : va_D A [(bM, .inr (3, [.int cd, .int wd, .ref bT, .ref bF, .int al, .ref bN, .ref bP, .ref bQ, .ref bR, .int sz1, .int un, .int (b2i mo), .int tl, .int (b2i sp), .int ((g_M_put bs jw bw iq im).1), .long ((g_M_put bs jw bw iq im).2), .int (b2i ly)]))] := by rw [hE]; exact hD.sub [0] (by decide) rfl
      exact W.vret hx hb hr (fun t ht hW => ⟨⟨(), rfl, trivial, by rw [ht]; exact hP9, hD9⟩, hS.F ht⟩) hS.2.2 d_M_put_18
