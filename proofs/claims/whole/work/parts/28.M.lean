theorem d_M_empty_0 : decode b_M_empty 0 = .ok (.aload_n 0, 1) := by decide +kernel
theorem d_M_empty_1 : decode b_M_empty 1 = .ok (.iload_n 1, 1) := by decide +kernel
theorem d_M_empty_2 : decode b_M_empty 2 = .ok (.putfield 63, 3) := by decide +kernel
theorem d_M_empty_5 : decode b_M_empty 5 = .ok (.aload_n 0, 1) := by decide +kernel
theorem d_M_empty_6 : decode b_M_empty 6 = .ok (.iload_n 2, 1) := by decide +kernel
theorem d_M_empty_7 : decode b_M_empty 7 = .ok (.putfield 69, 3) := by decide +kernel
theorem d_M_empty_10 : decode b_M_empty 10 = .ok (.aload_n 0, 1) := by decide +kernel
theorem d_M_empty_11 : decode b_M_empty 11 = .ok (.iconst 0, 1) := by decide +kernel
theorem d_M_empty_12 : decode b_M_empty 12 = .ok (.putfield 66, 3) := by decide +kernel
theorem d_M_empty_15 : decode b_M_empty 15 = .ok (.iconst 0, 1) := by decide +kernel
theorem d_M_empty_16 : decode b_M_empty 16 = .ok (.istore_n 3, 1) := by decide +kernel
theorem d_M_empty_17 : decode b_M_empty 17 = .ok (.iload_n 3, 1) := by decide +kernel
theorem d_M_empty_18 : decode b_M_empty 18 = .ok (.iload_n 1, 1) := by decide +kernel
theorem d_M_empty_19 : decode b_M_empty 19 = .ok (.if_icmp .ge 16, 3) := by decide +kernel
theorem d_M_empty_22 : decode b_M_empty 22 = .ok (.aload_n 0, 1) := by decide +kernel
theorem d_M_empty_23 : decode b_M_empty 23 = .ok (.getfield 32, 3) := by decide +kernel
theorem d_M_empty_26 : decode b_M_empty 26 = .ok (.iload_n 3, 1) := by decide +kernel
theorem d_M_empty_27 : decode b_M_empty 27 = .ok (.iconst 0, 1) := by decide +kernel
theorem d_M_empty_28 : decode b_M_empty 28 = .ok (.bastore, 1) := by decide +kernel
theorem d_M_empty_29 : decode b_M_empty 29 = .ok (.iinc 3 1, 3) := by decide +kernel
theorem d_M_empty_32 : decode b_M_empty 32 = .ok (.goto (-15), 3) := by decide +kernel
theorem d_M_empty_35 : decode b_M_empty 35 = .ok (.return_, 1) := by decide +kernel
set_option maxHeartbeats 4000000 in
set_option maxRecDepth 100000 in
theorem c_M_empty (l : Launch) (dC : Nat → ClassId) (dI : Nat → Nat → Nat) (kR : ClassId) (bM : Nat) (bR : Nat) (bT : Nat) (bF : Nat) (bN : Nat) (bP : Nat) (bQ : Nat) (sz : Nat) (cd : Int32) (wd : Int32) (al : Int32) (sz1 : Int32) (un : Int32) (mo : Bool) (tl : Int32) (sp : Bool) (tpo : Int32) (fro : Int64) (ly : Bool) (rb : Nat → Bool) (inn : Int32) (ilo : Int32) (hn : okz inn) : Met l y_M_empty w_M_empty ({ frames := 0, cells := 0, slots := 0, locals := 0 }) (cPc (dC, dI) [(kR, .boolean)] [.ref bM, .int inn, .int ilo] [(bM, .inr (3, [.int cd, .int wd, .ref bT, .ref bF, .int al, .ref bN, .ref bP, .ref bQ, .ref bR, .int sz1, .int un, .int (b2i mo), .int tl, .int (b2i sp), .int tpo, .long fro, .int (b2i ly)])), (bR, .inl (kR, 33000, .inl (fun k => b2i (rb k))))] sz) (va_Qv (fun (_ : Unit) => True) (fun _ t => va_P (dC, dI) classes [(bM, .inr (3, [.int cd, .int wd, .ref bT, .ref bF, .int al, .ref bN, .ref bP, .ref bQ, .ref bR, .int inn, .int ilo, .int (b2i false), .int tl, .int (b2i sp), .int tpo, .long fro, .int (b2i ly)])), (bR, .inl (kR, 33000, .inl (fun k => b2i ((g_M_empty rb inn) k))))] t.heap ∧ va_D (va_A [(bM, .inr (3, [.int cd, .int wd, .ref bT, .ref bF, .int al, .ref bN, .ref bP, .ref bQ, .ref bR, .int sz1, .int un, .int (b2i mo), .int tl, .int (b2i sp), .int tpo, .long fro, .int (b2i ly)])), (bR, .inl (kR, 33000, .inl (fun k => b2i (rb k))))] sz) [(bM, .inr (3, [.int cd, .int wd, .ref bT, .ref bF, .int al, .ref bN, .ref bP, .ref bQ, .ref bR, .int inn, .int ilo, .int (b2i false), .int tl, .int (b2i sp), .int tpo, .long fro, .int (b2i ly)])), (bR, .inl (kR, 33000, .inl (fun k => b2i ((g_M_empty rb inn) k))))]) (va_A [(bM, .inr (3, [.int cd, .int wd, .ref bT, .ref bF, .int al, .ref bN, .ref bP, .ref bQ, .ref bR, .int sz1, .int un, .int (b2i mo), .int tl, .int (b2i sp), .int tpo, .long fro, .int (b2i ly)])), (bR, .inl (kR, 33000, .inl (fun k => b2i (rb k))))] sz)) 0 0 (va_A [(bM, .inr (3, [.int cd, .int wd, .ref bT, .ref bF, .int al, .ref bN, .ref bP, .ref bQ, .ref bR, .int sz1, .int un, .int (b2i mo), .int tl, .int (b2i sp), .int tpo, .long fro, .int (b2i ly)])), (bR, .inl (kR, 33000, .inl (fun k => b2i (rb k))))] sz) := by
  refine Met.ofW (cc := b_M_empty) (maxL := 4) (ret := none) (by decide) rfl ?_
  intro p e s m args below meth c s₁ B hml hv
  obtain ⟨rfl, hsz, hP, hK, hD0, hnw⟩ := hv
  have hx := B.exec
  have hb := B.bytes
  have hr := B.returns
  have hts := atoms_spec (ws := w_M_empty) B.pre
  have htA : ∀ w ∈ wAll, w.before _ s = true := fun w h => hts w (List.mem_cons_of_mem _ h)
  have hown : s.vm.findClass R_M = some m.cls := findClass_of_methodNamed B.named
  have hlocks := B.notSynchronized
  subst hsz
  have hD := hD0.self (sz := s.heap.size)
  generalize hAe : va_A [(bM, .inr (3, [.int cd, .int wd, .ref bT, .ref bF, .int al, .ref bN, .ref bP, .ref bQ, .ref bR, .int sz1, .int un, .int (b2i mo), .int tl, .int (b2i sp), .int tpo, .long fro, .int (b2i ly)])), (bR, .inl (kR, 33000, .inl (fun k => b2i (rb k))))] s.heap.size = A at hD ⊢
  have hA : ∀ q : Nat, s.heap.size ≤ q → A q := fun q h => by rw [← hAe]; exact Or.inr h
  have hS : va_S A s.heap s.heap [] := va_S.rf
  have hP : va_P (dC, dI) classes [(bM, .inr (3, [.int cd, .int wd, .ref bT, .ref bF, .int al, .ref bN, .ref bP, .ref bQ, .ref bR, .int sz1, .int un, .int (b2i mo), .int tl, .int (b2i sp), .int tpo, .long fro, .int (b2i ly)])), (bR, .inl (kR, 33000, .inl (fun k => b2i (rb k))))] s.heap := hP
  obtain ⟨H, eH⟩ : ∃ z, z = s.heap := ⟨_, rfl⟩
  rw [← eH] at hP
  have hS : va_S A s.heap H [] := by rw [eH]; exact hS
  rw [← eH]
  generalize ([] : List Loc) = locs at hS ⊢
  have hl := lv_entry ([.ref bM, .int inn, .int ilo]) (n := 4) (Nat.le_of_ble_eq_true rfl)
  rw [lg_entry_eq]
  generalize (lg_sl ([.ref bM, .int inn, .int ilo]) ++ List.replicate (4 - (lg_sl ([.ref bM, .int inn, .int ilo])).length) Slot.unset).toArray = ls at hl ⊢
  have hl : lv_has ls 4 [(0, .ref bM), (1, .int inn), (2, .int ilo)] := hl
  refine lv_aload_n hx hb d_M_empty_0 rfl (lv_at hl 0 rfl) ?_
  refine lv_iload_n hx hb d_M_empty_1 rfl (lv_at hl 1 rfl) ?_
  refine va_put (D := (dC, dI)) (ci := 3) (v := .int inn) (ty := .int) (C := R_M) (T := F_M) (N := 17) hx hb htA in_M t_M t_M_ok n_M hown hK hP hD hS 0 rfl rfl 9 (by decide) (htA _ k_271) (fun _ h9 => h9) rfl (by decide +kernel) rfl rfl (Nat.le_of_ble_eq_true rfl) d_M_empty_2 (fun H locs hP hD hS => ?_)
  have hP : va_P (dC, dI) classes [(bM, .inr (3, [.int cd, .int wd, .ref bT, .ref bF, .int al, .ref bN, .ref bP, .ref bQ, .ref bR, .int inn, .int un, .int (b2i mo), .int tl, .int (b2i sp), .int tpo, .long fro, .int (b2i ly)])), (bR, .inl (kR, 33000, .inl (fun k => b2i (rb k))))] H := hP
  have hD : va_D A [(bM, .inr (3, [.int cd, .int wd, .ref bT, .ref bF, .int al, .ref bN, .ref bP, .ref bQ, .ref bR, .int inn, .int un, .int (b2i mo), .int tl, .int (b2i sp), .int tpo, .long fro, .int (b2i ly)])), (bR, .inl (kR, 33000, .inl (fun k => b2i (rb k))))] := hD
  refine lv_aload_n hx hb d_M_empty_5 rfl (lv_at hl 0 rfl) ?_
  refine lv_iload_n hx hb d_M_empty_6 rfl (lv_at hl 2 rfl) ?_
  refine va_put (D := (dC, dI)) (ci := 3) (v := .int ilo) (ty := .int) (C := R_M) (T := F_M) (N := 17) hx hb htA in_M t_M t_M_ok n_M hown hK hP hD hS 0 rfl rfl 10 (by decide) (htA _ k_277) (fun _ h9 => h9) rfl (by decide +kernel) rfl rfl (Nat.le_of_ble_eq_true rfl) d_M_empty_7 (fun H locs hP hD hS => ?_)
  have hP : va_P (dC, dI) classes [(bM, .inr (3, [.int cd, .int wd, .ref bT, .ref bF, .int al, .ref bN, .ref bP, .ref bQ, .ref bR, .int inn, .int ilo, .int (b2i mo), .int tl, .int (b2i sp), .int tpo, .long fro, .int (b2i ly)])), (bR, .inl (kR, 33000, .inl (fun k => b2i (rb k))))] H := hP
  have hD : va_D A [(bM, .inr (3, [.int cd, .int wd, .ref bT, .ref bF, .int al, .ref bN, .ref bP, .ref bQ, .ref bR, .int inn, .int ilo, .int (b2i mo), .int tl, .int (b2i sp), .int tpo, .long fro, .int (b2i ly)])), (bR, .inl (kR, 33000, .inl (fun k => b2i (rb k))))] := hD
  refine lv_aload_n hx hb d_M_empty_10 rfl (lv_at hl 0 rfl) ?_
  refine lv_iconst (v := 0) hx hb d_M_empty_11 (by decide) ?_
  refine va_put (D := (dC, dI)) (ci := 3) (v := .int 0) (ty := .boolean) (C := R_M) (T := F_M) (N := 17) hx hb htA in_M t_M t_M_ok n_M hown hK hP hD hS 0 rfl rfl 11 (by decide) (htA _ k_275) (fun _ h9 => h9) rfl (by decide +kernel) (by first | exact nar_b2i _ | rfl) (by first | exact fit_b2i _ | rfl) (Nat.le_of_ble_eq_true rfl) d_M_empty_12 (fun H locs hP hD hS => ?_)
  have hP : va_P (dC, dI) classes [(bM, .inr (3, [.int cd, .int wd, .ref bT, .ref bF, .int al, .ref bN, .ref bP, .ref bQ, .ref bR, .int inn, .int ilo, .int (b2i false), .int tl, .int (b2i sp), .int tpo, .long fro, .int (b2i ly)])), (bR, .inl (kR, 33000, .inl (fun k => b2i (rb k))))] H := hP
  have hD : va_D A [(bM, .inr (3, [.int cd, .int wd, .ref bT, .ref bF, .int al, .ref bN, .ref bP, .ref bQ, .ref bR, .int inn, .int ilo, .int (b2i false), .int tl, .int (b2i sp), .int tpo, .long fro, .int (b2i ly)])), (bR, .inl (kR, 33000, .inl (fun k => b2i (rb k))))] := hD
  refine lv_iconst (v := 0) hx hb d_M_empty_15 (by decide) ?_
  refine lv_istore_n (lv' := [(3, .int 0), (0, .ref bM), (1, .int inn), (2, .int ilo)]) hx hb d_M_empty_16 rfl hl (by decide) rfl (fun ls hl => ?_)
  refine loop_cut (S := Int32 × (Nat → Bool)) (nx_M_empty_17 inn) 33000 (0, rb) (M_empty_end inn rb hn) 0 0 (fun (x : Int32 × (Nat → Bool)) (H : Heap) (locs : List Loc) (ls : Array Slot) => 0 ≤ x.1.toInt ∧ va_P (dC, dI) classes [(bM, .inr (3, [.int cd, .int wd, .ref bT, .ref bF, .int al, .ref bN, .ref bP, .ref bQ, .ref bR, .int inn, .int ilo, .int (b2i false), .int tl, .int (b2i sp), .int tpo, .long fro, .int (b2i ly)])), (bR, .inl (kR, 33000, .inl (fun k => b2i (x.2 k))))] H ∧ va_D A [(bM, .inr (3, [.int cd, .int wd, .ref bT, .ref bF, .int al, .ref bN, .ref bP, .ref bQ, .ref bR, .int inn, .int ilo, .int (b2i false), .int tl, .int (b2i sp), .int tpo, .long fro, .int (b2i ly)])), (bR, .inl (kR, 33000, .inl (fun k => b2i (x.2 k))))] ∧ va_S A s.heap H locs ∧ lv_has ls 4 [(0, .ref bM), (1, .int inn), (2, .int ilo), (3, .int x.1)]) (fun x ls => F0 m 17 ls []) (fun x ls => F0 m 35 ls []) ?_ ?_ H locs ls ⟨nn_0, hP.sub [0, 1] rfl, hD.sub [0, 1] (by decide) rfl, hS, lv_sub hl [1, 2, 3, 0] rfl⟩
  · skip
    rintro ⟨v17_0, v17_1⟩ hex hbk H locs ls ⟨hinv, hP, hD, hS, hl⟩
    have hinv : 0 ≤ v17_0.toInt := hinv
    have hP : va_P (dC, dI) classes [(bM, .inr (3, [.int cd, .int wd, .ref bT, .ref bF, .int al, .ref bN, .ref bP, .ref bQ, .ref bR, .int inn, .int ilo, .int (b2i false), .int tl, .int (b2i sp), .int tpo, .long fro, .int (b2i ly)])), (bR, .inl (kR, 33000, .inl (fun k => b2i (v17_1 k))))] H := hP
    have hD : va_D A [(bM, .inr (3, [.int cd, .int wd, .ref bT, .ref bF, .int al, .ref bN, .ref bP, .ref bQ, .ref bR, .int inn, .int ilo, .int (b2i false), .int tl, .int (b2i sp), .int tpo, .long fro, .int (b2i ly)])), (bR, .inl (kR, 33000, .inl (fun k => b2i (v17_1 k))))] := hD
    have hl : lv_has ls 4 [(0, .ref bM), (1, .int inn), (2, .int ilo), (3, .int v17_0)] := hl
    refine lv_iload_n hx hb d_M_empty_17 rfl (lv_at hl 3 rfl) ?_
    refine lv_iload_n hx hb d_M_empty_18 rfl (lv_at hl 1 rfl) ?_
    refine lv_icmp_ge (tgt := 35) hx hb d_M_empty_19 (by decide) (fun c_19 => ?_) (fun c_19 => ?_)
    · skip
      exact hex (by clear hP hD hl hS; unfold nx_M_empty_17; (try dsimp only); rw [if_pos c_19]) H locs ls ⟨hinv, hP.sub [0, 1] rfl, hD.sub [0, 1] (by decide) rfl, hS, lv_sub hl [0, 1, 2, 3] rfl⟩
    · skip
      refine lv_aload_n hx hb d_M_empty_22 rfl (lv_at hl 0 rfl) ?_
      refine va_get (D := (dC, dI)) (ci := 3) (v := .ref bR) (C := R_M) (T := F_M) (N := 17) hx hb htA in_M hown hK hP 0 rfl rfl 8 (by decide) (htA _ k_272) (fun _ h9 => h9) rfl d_M_empty_23 ?_
      refine lv_iload_n hx hb d_M_empty_26 rfl (lv_at hl 3 rfl) ?_
      refine lv_iconst (v := 0) hx hb d_M_empty_27 (by decide) ?_
      refine va_zast (x := b2i false) hx hb hK hP hD hS 1 0 rfl rfl (row_in3 hinv c_19 hn) d_M_empty_28 (fun H locs hP hD hS => ?_)
      rw [upd_b2i] at hP hD
      have hP : va_P (dC, dI) classes [(bM, .inr (3, [.int cd, .int wd, .ref bT, .ref bF, .int al, .ref bN, .ref bP, .ref bQ, .ref bR, .int inn, .int ilo, .int (b2i false), .int tl, .int (b2i sp), .int tpo, .long fro, .int (b2i ly)])), (bR, .inl (kR, 33000, .inl (fun k => b2i ((updB v17_1 v17_0.toNatClampNeg false) k))))] H := hP
      have hD : va_D A [(bM, .inr (3, [.int cd, .int wd, .ref bT, .ref bF, .int al, .ref bN, .ref bP, .ref bQ, .ref bR, .int inn, .int ilo, .int (b2i false), .int tl, .int (b2i sp), .int tpo, .long fro, .int (b2i ly)])), (bR, .inl (kR, 33000, .inl (fun k => b2i ((updB v17_1 v17_0.toNatClampNeg false) k))))] := hD
      refine lv_iinc (v := (v17_0 + 1)) (lv' := [(3, .int (v17_0 + 1)), (0, .ref bM), (1, .int inn), (2, .int ilo)]) hx hb d_M_empty_29 hl (k := 3) rfl rfl (by decide) rfl (fun ls hl => ?_)
      refine lv_goto (tgt := 17) hx hb d_M_empty_32 (by decide) ?_
      exact hbk ((v17_0 + 1), (updB v17_1 v17_0.toNatClampNeg false)) (by clear hP hD hl hS; unfold nx_M_empty_17; (try dsimp only); rw [if_neg c_19]) H locs ls ⟨inc_nn hinv c_19 hn, hP.sub [0, 1] rfl, hD.sub [0, 1] (by decide) rfl, hS, lv_sub hl [1, 2, 3, 0] rfl⟩
  · skip
    rintro ⟨v17_0, v17_1⟩ H locs ls ev ⟨hinv, hP, hD, hS, hl⟩
    have hinv : 0 ≤ v17_0.toInt := hinv
    have ev17_0 : (lrun (nx_M_empty_17 inn) 33000 (0, rb)).1 = v17_0 := by rw [← ev]
    have ev17_1 : (lrun (nx_M_empty_17 inn) 33000 (0, rb)).2 = v17_1 := by rw [← ev]
    clear ev
    have hP : va_P (dC, dI) classes [(bM, .inr (3, [.int cd, .int wd, .ref bT, .ref bF, .int al, .ref bN, .ref bP, .ref bQ, .ref bR, .int inn, .int ilo, .int (b2i false), .int tl, .int (b2i sp), .int tpo, .long fro, .int (b2i ly)])), (bR, .inl (kR, 33000, .inl (fun k => b2i (v17_1 k))))] H := hP
    have hD : va_D A [(bM, .inr (3, [.int cd, .int wd, .ref bT, .ref bF, .int al, .ref bN, .ref bP, .ref bQ, .ref bR, .int inn, .int ilo, .int (b2i false), .int tl, .int (b2i sp), .int tpo, .long fro, .int (b2i ly)])), (bR, .inl (kR, 33000, .inl (fun k => b2i (v17_1 k))))] := hD
    have hl : lv_has ls 4 [(0, .ref bM), (1, .int inn), (2, .int ilo), (3, .int v17_0)] := hl
    have hE : g_M_empty rb inn = (v17_1) := by clear hP hD hl hS; subst ev17_1; subst ev17_0; unfold g_M_empty; rfl
    have hP9 : va_P (dC, dI) classes [(bM, .inr (3, [.int cd, .int wd, .ref bT, .ref bF, .int al, .ref bN, .ref bP, .ref bQ, .ref bR, .int inn, .int ilo, .int (b2i false), .int tl, .int (b2i sp), .int tpo, .long fro, .int (b2i ly)])), (bR, .inl (kR, 33000, .inl (fun k => b2i ((g_M_empty rb inn) k))))] H := by rw [hE]; exact hP.sub [0, 1] rfl
    have hD9 : va_D A [(bM, .inr (3, [.int cd, .int wd, .ref bT, .ref bF, .int al, .ref bN, .ref bP, .ref bQ, .ref bR, .int inn, .int ilo, .int (b2i false), .int tl, .int (b2i sp), .int tpo, .long fro, .int (b2i ly)])), (bR, .inl (kR, 33000, .inl (fun k => b2i ((g_M_empty rb inn) k))))] := by rw [hE]; exact hD.sub [0, 1] (by decide) rfl
    exact W.vret hx hb hr (fun t ht hW => ⟨⟨(), rfl, trivial, by rw [ht]; exact hP9, hD9⟩, hS.F ht⟩) hS.2.2 d_M_empty_35
theorem d_M_join_0 : decode b_M_join 0 = .ok (.iconst 0, 1) := by decide +kernel
theorem d_M_join_1 : decode b_M_join 1 = .ok (.istore 5, 2) := by decide +kernel
theorem d_M_join_3 : decode b_M_join 3 = .ok (.iload_n 3, 1) := by decide +kernel
theorem d_M_join_4 : decode b_M_join 4 = .ok (.istore 6, 2) := by decide +kernel
theorem d_M_join_6 : decode b_M_join 6 = .ok (.iload 6, 2) := by decide +kernel
theorem d_M_join_8 : decode b_M_join 8 = .ok (.aload_n 0, 1) := by decide +kernel
theorem d_M_join_9 : decode b_M_join 9 = .ok (.getfield 63, 3) := by decide +kernel
theorem d_M_join_12 : decode b_M_join 12 = .ok (.if_icmp .ge 151, 3) := by decide +kernel
theorem d_M_join_15 : decode b_M_join 15 = .ok (.aload_n 0, 1) := by decide +kernel
theorem d_M_join_16 : decode b_M_join 16 = .ok (.getfield 32, 3) := by decide +kernel
theorem d_M_join_19 : decode b_M_join 19 = .ok (.iload 6, 2) := by decide +kernel
theorem d_M_join_21 : decode b_M_join 21 = .ok (.baload, 1) := by decide +kernel
theorem d_M_join_22 : decode b_M_join 22 = .ok (.istore 7, 2) := by decide +kernel
theorem d_M_join_24 : decode b_M_join 24 = .ok (.iload 6, 2) := by decide +kernel
theorem d_M_join_26 : decode b_M_join 26 = .ok (.iload_n 3, 1) := by decide +kernel
theorem d_M_join_27 : decode b_M_join 27 = .ok (.isub, 1) := by decide +kernel
theorem d_M_join_28 : decode b_M_join 28 = .ok (.bipush 64, 2) := by decide +kernel
theorem d_M_join_30 : decode b_M_join 30 = .ok (.if_icmp .ge 20, 3) := by decide +kernel
theorem d_M_join_50 : decode b_M_join 50 = .ok (.iconst 0, 1) := by decide +kernel
theorem d_M_join_33 : decode b_M_join 33 = .ok (.lload_n 1, 1) := by decide +kernel
theorem d_M_join_34 : decode b_M_join 34 = .ok (.iload 6, 2) := by decide +kernel
theorem d_M_join_36 : decode b_M_join 36 = .ok (.iload_n 3, 1) := by decide +kernel
theorem d_M_join_37 : decode b_M_join 37 = .ok (.isub, 1) := by decide +kernel
theorem d_M_join_38 : decode b_M_join 38 = .ok (.lshr, 1) := by decide +kernel
theorem d_M_join_39 : decode b_M_join 39 = .ok (.lconst 1, 1) := by decide +kernel
theorem d_M_join_40 : decode b_M_join 40 = .ok (.land, 1) := by decide +kernel
theorem d_M_join_41 : decode b_M_join 41 = .ok (.lconst 1, 1) := by decide +kernel
theorem d_M_join_42 : decode b_M_join 42 = .ok (.lcmp, 1) := by decide +kernel
theorem d_M_join_43 : decode b_M_join 43 = .ok (.ifCond .ne 7, 3) := by decide +kernel
theorem d_M_join_46 : decode b_M_join 46 = .ok (.iconst 1, 1) := by decide +kernel
theorem d_M_join_47 : decode b_M_join 47 = .ok (.goto 4, 3) := by decide +kernel
theorem d_M_join_51 : decode b_M_join 51 = .ok (.istore 8, 2) := by decide +kernel
theorem d_M_join_53 : decode b_M_join 53 = .ok (.aload_n 0, 1) := by decide +kernel
theorem d_M_join_54 : decode b_M_join 54 = .ok (.getfield 32, 3) := by decide +kernel
theorem d_M_join_57 : decode b_M_join 57 = .ok (.iload 6, 2) := by decide +kernel
theorem d_M_join_59 : decode b_M_join 59 = .ok (.iload 7, 2) := by decide +kernel
theorem d_M_join_61 : decode b_M_join 61 = .ok (.iload 8, 2) := by decide +kernel
theorem d_M_join_63 : decode b_M_join 63 = .ok (.if_icmp .eq 7, 3) := by decide +kernel
theorem d_M_join_70 : decode b_M_join 70 = .ok (.iconst 0, 1) := by decide +kernel
theorem d_M_join_66 : decode b_M_join 66 = .ok (.iconst 1, 1) := by decide +kernel
theorem d_M_join_67 : decode b_M_join 67 = .ok (.goto 4, 3) := by decide +kernel
theorem d_M_join_71 : decode b_M_join 71 = .ok (.iload 5, 2) := by decide +kernel
theorem d_M_join_73 : decode b_M_join 73 = .ok (.if_icmp .eq 7, 3) := by decide +kernel
theorem d_M_join_80 : decode b_M_join 80 = .ok (.iconst 0, 1) := by decide +kernel
theorem d_M_join_76 : decode b_M_join 76 = .ok (.iconst 1, 1) := by decide +kernel
theorem d_M_join_77 : decode b_M_join 77 = .ok (.goto 4, 3) := by decide +kernel
theorem d_M_join_81 : decode b_M_join 81 = .ok (.bastore, 1) := by decide +kernel
theorem d_M_join_82 : decode b_M_join 82 = .ok (.iload 4, 2) := by decide +kernel
theorem d_M_join_84 : decode b_M_join 84 = .ok (.ifCond .eq 36, 3) := by decide +kernel
theorem d_M_join_120 : decode b_M_join 120 = .ok (.iload 7, 2) := by decide +kernel
theorem d_M_join_122 : decode b_M_join 122 = .ok (.ifCond .eq 8, 3) := by decide +kernel
theorem d_M_join_130 : decode b_M_join 130 = .ok (.iload 7, 2) := by decide +kernel
theorem d_M_join_132 : decode b_M_join 132 = .ok (.ifCond .eq 8, 3) := by decide +kernel
theorem d_M_join_140 : decode b_M_join 140 = .ok (.iload 8, 2) := by decide +kernel
theorem d_M_join_142 : decode b_M_join 142 = .ok (.ifCond .eq 12, 3) := by decide +kernel
theorem d_M_join_154 : decode b_M_join 154 = .ok (.iconst 0, 1) := by decide +kernel
theorem d_M_join_145 : decode b_M_join 145 = .ok (.iload 5, 2) := by decide +kernel
theorem d_M_join_147 : decode b_M_join 147 = .ok (.ifCond .eq 7, 3) := by decide +kernel
theorem d_M_join_135 : decode b_M_join 135 = .ok (.iload 5, 2) := by decide +kernel
theorem d_M_join_137 : decode b_M_join 137 = .ok (.ifCond .ne 13, 3) := by decide +kernel
theorem d_M_join_125 : decode b_M_join 125 = .ok (.iload 8, 2) := by decide +kernel
theorem d_M_join_127 : decode b_M_join 127 = .ok (.ifCond .ne 23, 3) := by decide +kernel
theorem d_M_join_150 : decode b_M_join 150 = .ok (.iconst 1, 1) := by decide +kernel
theorem d_M_join_151 : decode b_M_join 151 = .ok (.goto 4, 3) := by decide +kernel
theorem d_M_join_87 : decode b_M_join 87 = .ok (.iload 7, 2) := by decide +kernel
theorem d_M_join_89 : decode b_M_join 89 = .ok (.ifCond .ne 13, 3) := by decide +kernel
theorem d_M_join_102 : decode b_M_join 102 = .ok (.iload 8, 2) := by decide +kernel
theorem d_M_join_104 : decode b_M_join 104 = .ok (.ifCond .eq 12, 3) := by decide +kernel
theorem d_M_join_116 : decode b_M_join 116 = .ok (.iconst 0, 1) := by decide +kernel
theorem d_M_join_117 : decode b_M_join 117 = .ok (.goto 38, 3) := by decide +kernel
theorem d_M_join_107 : decode b_M_join 107 = .ok (.iload 5, 2) := by decide +kernel
theorem d_M_join_109 : decode b_M_join 109 = .ok (.ifCond .eq 7, 3) := by decide +kernel
theorem d_M_join_92 : decode b_M_join 92 = .ok (.iload 8, 2) := by decide +kernel
theorem d_M_join_94 : decode b_M_join 94 = .ok (.ifCond .ne 18, 3) := by decide +kernel
theorem d_M_join_112 : decode b_M_join 112 = .ok (.iconst 1, 1) := by decide +kernel
theorem d_M_join_113 : decode b_M_join 113 = .ok (.goto 42, 3) := by decide +kernel
theorem d_M_join_97 : decode b_M_join 97 = .ok (.iload 5, 2) := by decide +kernel
theorem d_M_join_99 : decode b_M_join 99 = .ok (.ifCond .ne 13, 3) := by decide +kernel
theorem d_M_join_155 : decode b_M_join 155 = .ok (.istore 5, 2) := by decide +kernel
theorem d_M_join_157 : decode b_M_join 157 = .ok (.iinc 6 1, 3) := by decide +kernel
theorem d_M_join_160 : decode b_M_join 160 = .ok (.goto (-154), 3) := by decide +kernel
theorem d_M_join_163 : decode b_M_join 163 = .ok (.return_, 1) := by decide +kernel
set_option maxHeartbeats 4000000 in
set_option maxRecDepth 100000 in
theorem c_M_join (l : Launch) (dC : Nat → ClassId) (dI : Nat → Nat → Nat) (kR : ClassId) (bM : Nat) (bR : Nat) (bT : Nat) (bF : Nat) (bN : Nat) (bP : Nat) (bQ : Nat) (sz : Nat) (cd : Int32) (wd : Int32) (al : Int32) (sz1 : Int32) (un : Int32) (mo : Bool) (tl : Int32) (sp : Bool) (tpo : Int32) (fro : Int64) (ly : Bool) (rb : Nat → Bool) (jf : Int64) (ipl : Int32) (ba : Bool) (hz : okz sz1) (hpl : 0 ≤ ipl.toInt) : Met l y_M_join w_M_join ({ frames := 0, cells := 0, slots := 0, locals := 0 }) (cPc (dC, dI) [(kR, .boolean)] [.ref bM, .long jf, .int ipl, .int (b2i ba)] [(bM, .inr (3, [.int cd, .int wd, .ref bT, .ref bF, .int al, .ref bN, .ref bP, .ref bQ, .ref bR, .int sz1, .int un, .int (b2i mo), .int tl, .int (b2i sp), .int tpo, .long fro, .int (b2i ly)])), (bR, .inl (kR, 33000, .inl (fun k => b2i (rb k))))] sz) (va_Qv (fun (_ : Unit) => True) (fun _ t => va_P (dC, dI) classes [(bM, .inr (3, [.int cd, .int wd, .ref bT, .ref bF, .int al, .ref bN, .ref bP, .ref bQ, .ref bR, .int sz1, .int un, .int (b2i mo), .int tl, .int (b2i sp), .int tpo, .long fro, .int (b2i ly)])), (bR, .inl (kR, 33000, .inl (fun k => b2i ((g_M_join sz1 rb jf ipl ba) k))))] t.heap ∧ va_D (va_A [(bM, .inr (3, [.int cd, .int wd, .ref bT, .ref bF, .int al, .ref bN, .ref bP, .ref bQ, .ref bR, .int sz1, .int un, .int (b2i mo), .int tl, .int (b2i sp), .int tpo, .long fro, .int (b2i ly)])), (bR, .inl (kR, 33000, .inl (fun k => b2i (rb k))))] sz) [(bM, .inr (3, [.int cd, .int wd, .ref bT, .ref bF, .int al, .ref bN, .ref bP, .ref bQ, .ref bR, .int sz1, .int un, .int (b2i mo), .int tl, .int (b2i sp), .int tpo, .long fro, .int (b2i ly)])), (bR, .inl (kR, 33000, .inl (fun k => b2i ((g_M_join sz1 rb jf ipl ba) k))))]) (va_A [(bM, .inr (3, [.int cd, .int wd, .ref bT, .ref bF, .int al, .ref bN, .ref bP, .ref bQ, .ref bR, .int sz1, .int un, .int (b2i mo), .int tl, .int (b2i sp), .int tpo, .long fro, .int (b2i ly)])), (bR, .inl (kR, 33000, .inl (fun k => b2i (rb k))))] sz)) 0 0 (va_A [(bM, .inr (3, [.int cd, .int wd, .ref bT, .ref bF, .int al, .ref bN, .ref bP, .ref bQ, .ref bR, .int sz1, .int un, .int (b2i mo), .int tl, .int (b2i sp), .int tpo, .long fro, .int (b2i ly)])), (bR, .inl (kR, 33000, .inl (fun k => b2i (rb k))))] sz) := by
  refine Met.ofW (cc := b_M_join) (maxL := 9) (ret := none) (by decide) rfl ?_
  intro p e s m args below meth c s₁ B hml hv
  obtain ⟨rfl, hsz, hP, hK, hD0, hnw⟩ := hv
  have hx := B.exec
  have hb := B.bytes
  have hr := B.returns
  have hts := atoms_spec (ws := w_M_join) B.pre
  have htA : ∀ w ∈ wAll, w.before _ s = true := fun w h => hts w (List.mem_cons_of_mem _ h)
  have hown : s.vm.findClass R_M = some m.cls := findClass_of_methodNamed B.named
  have hlocks := B.notSynchronized
  subst hsz
  have hD := hD0.self (sz := s.heap.size)
  generalize hAe : va_A [(bM, .inr (3, [.int cd, .int wd, .ref bT, .ref bF, .int al, .ref bN, .ref bP, .ref bQ, .ref bR, .int sz1, .int un, .int (b2i mo), .int tl, .int (b2i sp), .int tpo, .long fro, .int (b2i ly)])), (bR, .inl (kR, 33000, .inl (fun k => b2i (rb k))))] s.heap.size = A at hD ⊢
  have hA : ∀ q : Nat, s.heap.size ≤ q → A q := fun q h => by rw [← hAe]; exact Or.inr h
  have hS : va_S A s.heap s.heap [] := va_S.rf
  have hP : va_P (dC, dI) classes [(bM, .inr (3, [.int cd, .int wd, .ref bT, .ref bF, .int al, .ref bN, .ref bP, .ref bQ, .ref bR, .int sz1, .int un, .int (b2i mo), .int tl, .int (b2i sp), .int tpo, .long fro, .int (b2i ly)])), (bR, .inl (kR, 33000, .inl (fun k => b2i (rb k))))] s.heap := hP
  obtain ⟨H, eH⟩ : ∃ z, z = s.heap := ⟨_, rfl⟩
  rw [← eH] at hP
  have hS : va_S A s.heap H [] := by rw [eH]; exact hS
  rw [← eH]
  generalize ([] : List Loc) = locs at hS ⊢
  have hl := lv_entry ([.ref bM, .long jf, .int ipl, .int (b2i ba)]) (n := 9) (Nat.le_of_ble_eq_true rfl)
  rw [lg_entry_eq]
  generalize (lg_sl ([.ref bM, .long jf, .int ipl, .int (b2i ba)]) ++ List.replicate (9 - (lg_sl ([.ref bM, .long jf, .int ipl, .int (b2i ba)])).length) Slot.unset).toArray = ls at hl ⊢
  have hl : lv_has ls 9 [(0, .ref bM), (1, .long jf), (3, .int ipl), (4, .int (b2i ba))] := hl
  refine lv_iconst (v := 0) hx hb d_M_join_0 (by decide) ?_
  refine lv_istore (lv' := [(5, .int 0), (0, .ref bM), (1, .long jf), (3, .int ipl), (4, .int (b2i ba))]) hx hb d_M_join_1 hl (by decide) rfl (fun ls hl => ?_)
  refine lv_iload_n hx hb d_M_join_3 rfl (lv_at hl 3 rfl) ?_
  refine lv_istore (lv' := [(6, .int ipl), (5, .int 0), (0, .ref bM), (1, .long jf), (3, .int ipl), (4, .int (b2i ba))]) hx hb d_M_join_4 hl (by decide) rfl (fun ls hl => ?_)
  refine loop_cut (S := Bool × Int32 × (Nat → Bool)) (nx_M_join_6 sz1 jf ipl ba) 33000 (false, ipl, rb) (M_join_end sz1 jf ipl ba rb hz hpl) 0 0 (fun (x : Bool × Int32 × (Nat → Bool)) (H : Heap) (locs : List Loc) (ls : Array Slot) => 0 ≤ x.2.1.toInt ∧ va_P (dC, dI) classes [(bM, .inr (3, [.int cd, .int wd, .ref bT, .ref bF, .int al, .ref bN, .ref bP, .ref bQ, .ref bR, .int sz1, .int un, .int (b2i mo), .int tl, .int (b2i sp), .int tpo, .long fro, .int (b2i ly)])), (bR, .inl (kR, 33000, .inl (fun k => b2i (x.2.2 k))))] H ∧ va_D A [(bM, .inr (3, [.int cd, .int wd, .ref bT, .ref bF, .int al, .ref bN, .ref bP, .ref bQ, .ref bR, .int sz1, .int un, .int (b2i mo), .int tl, .int (b2i sp), .int tpo, .long fro, .int (b2i ly)])), (bR, .inl (kR, 33000, .inl (fun k => b2i (x.2.2 k))))] ∧ va_S A s.heap H locs ∧ lv_has ls 9 [(0, .ref bM), (1, .long jf), (3, .int ipl), (4, .int (b2i ba)), (5, .int (b2i x.1)), (6, .int x.2.1)]) (fun x ls => F0 m 6 ls []) (fun x ls => F0 m 163 ls []) ?_ ?_ H locs ls ⟨hpl, hP.sub [0, 1] rfl, hD.sub [0, 1] (by decide) rfl, hS, lv_sub hl [2, 3, 4, 5, 1, 0] rfl⟩
  · skip
    rintro ⟨v6_0, v6_1, v6_2⟩ hex hbk H locs ls ⟨hinv, hP, hD, hS, hl⟩
    have hinv : 0 ≤ v6_1.toInt := hinv
    have hP : va_P (dC, dI) classes [(bM, .inr (3, [.int cd, .int wd, .ref bT, .ref bF, .int al, .ref bN, .ref bP, .ref bQ, .ref bR, .int sz1, .int un, .int (b2i mo), .int tl, .int (b2i sp), .int tpo, .long fro, .int (b2i ly)])), (bR, .inl (kR, 33000, .inl (fun k => b2i (v6_2 k))))] H := hP
    have hD : va_D A [(bM, .inr (3, [.int cd, .int wd, .ref bT, .ref bF, .int al, .ref bN, .ref bP, .ref bQ, .ref bR, .int sz1, .int un, .int (b2i mo), .int tl, .int (b2i sp), .int tpo, .long fro, .int (b2i ly)])), (bR, .inl (kR, 33000, .inl (fun k => b2i (v6_2 k))))] := hD
    have hl : lv_has ls 9 [(0, .ref bM), (1, .long jf), (3, .int ipl), (4, .int (b2i ba)), (5, .int (b2i v6_0)), (6, .int v6_1)] := hl
    refine lv_iload hx hb d_M_join_6 (lv_at hl 5 rfl) ?_
    refine lv_aload_n hx hb d_M_join_8 rfl (lv_at hl 0 rfl) ?_
    refine va_get (D := (dC, dI)) (ci := 3) (v := .int sz1) (C := R_M) (T := F_M) (N := 17) hx hb htA in_M hown hK hP 0 rfl rfl 9 (by decide) (htA _ k_271) (fun _ h9 => h9) rfl d_M_join_9 ?_
    refine lv_icmp_ge (tgt := 163) hx hb d_M_join_12 (by decide) (fun c_12 => ?_) (fun c_12 => ?_)
    · skip
      exact hex (by clear hP hD hl hS; unfold nx_M_join_6; (try dsimp only); rw [if_pos c_12]) H locs ls ⟨hinv, hP.sub [0, 1] rfl, hD.sub [0, 1] (by decide) rfl, hS, lv_sub hl [0, 1, 2, 3, 4, 5] rfl⟩
    · skip
      refine lv_aload_n hx hb d_M_join_15 rfl (lv_at hl 0 rfl) ?_
      refine va_get (D := (dC, dI)) (ci := 3) (v := .ref bR) (C := R_M) (T := F_M) (N := 17) hx hb htA in_M hown hK hP 0 rfl rfl 8 (by decide) (htA _ k_272) (fun _ h9 => h9) rfl d_M_join_16 ?_
      refine lv_iload hx hb d_M_join_19 (lv_at hl 5 rfl) ?_
      refine va_zald hx hb hK hP 1 0 rfl rfl (row_in3 hinv c_12 hz) d_M_join_21 ?_
      refine lv_istore (lv' := [(7, .int (b2i (v6_2 v6_1.toNatClampNeg))), (0, .ref bM), (1, .long jf), (3, .int ipl), (4, .int (b2i ba)), (5, .int (b2i v6_0)), (6, .int v6_1)]) hx hb d_M_join_22 hl (by decide) rfl (fun ls hl => ?_)
      refine lv_iload hx hb d_M_join_24 (lv_at hl 6 rfl) ?_
      refine lv_iload_n hx hb d_M_join_26 rfl (lv_at hl 3 rfl) ?_
      refine lv_isub hx hb d_M_join_27 ?_
      refine lv_bipush (v := 64) hx hb d_M_join_28 (by decide) ?_
      refine cut_join (X := Bool) 0 0 (fun (x : Bool) (H : Heap) (locs : List Loc) (ls : Array Slot) => (if 64 ≤ (v6_1 - ipl) then false else if ((aR jf (v6_1 - ipl)) &&& 1) = 1 then true else false) = x ∧ va_P (dC, dI) classes [(bM, .inr (3, [.int cd, .int wd, .ref bT, .ref bF, .int al, .ref bN, .ref bP, .ref bQ, .ref bR, .int sz1, .int un, .int (b2i mo), .int tl, .int (b2i sp), .int tpo, .long fro, .int (b2i ly)])), (bR, .inl (kR, 33000, .inl (fun k => b2i (v6_2 k))))] H ∧ va_D A [(bM, .inr (3, [.int cd, .int wd, .ref bT, .ref bF, .int al, .ref bN, .ref bP, .ref bQ, .ref bR, .int sz1, .int un, .int (b2i mo), .int tl, .int (b2i sp), .int tpo, .long fro, .int (b2i ly)])), (bR, .inl (kR, 33000, .inl (fun k => b2i (v6_2 k))))] ∧ va_S A s.heap H locs ∧ lv_has ls 9 [(0, .ref bM), (1, .long jf), (3, .int ipl), (4, .int (b2i ba)), (5, .int (b2i v6_0)), (6, .int v6_1), (7, .int (b2i (v6_2 v6_1.toNatClampNeg)))]) (fun x ls => F0 m 51 ls [.int (b2i x)]) ?_ (fun J51 => ?_)
      · skip
        rintro j51_0 H locs ls ⟨ej51_0, hP, hD, hS, hl⟩
        have ej51_0 : (if 64 ≤ (v6_1 - ipl) then false else if ((aR jf (v6_1 - ipl)) &&& 1) = 1 then true else false) = j51_0 := ej51_0
        have hP : va_P (dC, dI) classes [(bM, .inr (3, [.int cd, .int wd, .ref bT, .ref bF, .int al, .ref bN, .ref bP, .ref bQ, .ref bR, .int sz1, .int un, .int (b2i mo), .int tl, .int (b2i sp), .int tpo, .long fro, .int (b2i ly)])), (bR, .inl (kR, 33000, .inl (fun k => b2i (v6_2 k))))] H := hP
        have hD : va_D A [(bM, .inr (3, [.int cd, .int wd, .ref bT, .ref bF, .int al, .ref bN, .ref bP, .ref bQ, .ref bR, .int sz1, .int un, .int (b2i mo), .int tl, .int (b2i sp), .int tpo, .long fro, .int (b2i ly)])), (bR, .inl (kR, 33000, .inl (fun k => b2i (v6_2 k))))] := hD
        have hl : lv_has ls 9 [(0, .ref bM), (1, .long jf), (3, .int ipl), (4, .int (b2i ba)), (5, .int (b2i v6_0)), (6, .int v6_1), (7, .int (b2i (v6_2 v6_1.toNatClampNeg)))] := hl
        refine lv_istore (lv' := [(8, .int (b2i j51_0)), (0, .ref bM), (1, .long jf), (3, .int ipl), (4, .int (b2i ba)), (5, .int (b2i v6_0)), (6, .int v6_1), (7, .int (b2i (v6_2 v6_1.toNatClampNeg)))]) hx hb d_M_join_51 hl (by decide) rfl (fun ls hl => ?_)
        refine lv_aload_n hx hb d_M_join_53 rfl (lv_at hl 1 rfl) ?_
        refine va_get (D := (dC, dI)) (ci := 3) (v := .ref bR) (C := R_M) (T := F_M) (N := 17) hx hb htA in_M hown hK hP 0 rfl rfl 8 (by decide) (htA _ k_272) (fun _ h9 => h9) rfl d_M_join_54 ?_
        refine lv_iload hx hb d_M_join_57 (lv_at hl 6 rfl) ?_
        refine lv_iload hx hb d_M_join_59 (lv_at hl 7 rfl) ?_
        refine lv_iload hx hb d_M_join_61 (lv_at hl 0 rfl) ?_
        refine cut_join (X := Bool) 0 0 (fun (x : Bool) (H : Heap) (locs : List Loc) (ls : Array Slot) => (if (v6_2 v6_1.toNatClampNeg) = j51_0 then false else true) = x ∧ va_P (dC, dI) classes [(bM, .inr (3, [.int cd, .int wd, .ref bT, .ref bF, .int al, .ref bN, .ref bP, .ref bQ, .ref bR, .int sz1, .int un, .int (b2i mo), .int tl, .int (b2i sp), .int tpo, .long fro, .int (b2i ly)])), (bR, .inl (kR, 33000, .inl (fun k => b2i (v6_2 k))))] H ∧ va_D A [(bM, .inr (3, [.int cd, .int wd, .ref bT, .ref bF, .int al, .ref bN, .ref bP, .ref bQ, .ref bR, .int sz1, .int un, .int (b2i mo), .int tl, .int (b2i sp), .int tpo, .long fro, .int (b2i ly)])), (bR, .inl (kR, 33000, .inl (fun k => b2i (v6_2 k))))] ∧ va_S A s.heap H locs ∧ lv_has ls 9 [(0, .ref bM), (1, .long jf), (3, .int ipl), (4, .int (b2i ba)), (5, .int (b2i v6_0)), (6, .int v6_1), (7, .int (b2i (v6_2 v6_1.toNatClampNeg))), (8, .int (b2i j51_0))]) (fun x ls => F0 m 71 ls [.int (b2i x), .int v6_1, .ref bR]) ?_ (fun J71 => ?_)
        · skip
          rintro j71_0 H locs ls ⟨ej71_0, hP, hD, hS, hl⟩
          have ej71_0 : (if (v6_2 v6_1.toNatClampNeg) = j51_0 then false else true) = j71_0 := ej71_0
          have hP : va_P (dC, dI) classes [(bM, .inr (3, [.int cd, .int wd, .ref bT, .ref bF, .int al, .ref bN, .ref bP, .ref bQ, .ref bR, .int sz1, .int un, .int (b2i mo), .int tl, .int (b2i sp), .int tpo, .long fro, .int (b2i ly)])), (bR, .inl (kR, 33000, .inl (fun k => b2i (v6_2 k))))] H := hP
          have hD : va_D A [(bM, .inr (3, [.int cd, .int wd, .ref bT, .ref bF, .int al, .ref bN, .ref bP, .ref bQ, .ref bR, .int sz1, .int un, .int (b2i mo), .int tl, .int (b2i sp), .int tpo, .long fro, .int (b2i ly)])), (bR, .inl (kR, 33000, .inl (fun k => b2i (v6_2 k))))] := hD
          have hl : lv_has ls 9 [(0, .ref bM), (1, .long jf), (3, .int ipl), (4, .int (b2i ba)), (5, .int (b2i v6_0)), (6, .int v6_1), (7, .int (b2i (v6_2 v6_1.toNatClampNeg))), (8, .int (b2i j51_0))] := hl
          refine lv_iload hx hb d_M_join_71 (lv_at hl 4 rfl) ?_
          refine cut_join (X := Bool) 0 0 (fun (x : Bool) (H : Heap) (locs : List Loc) (ls : Array Slot) => (if j71_0 = v6_0 then false else true) = x ∧ va_P (dC, dI) classes [(bM, .inr (3, [.int cd, .int wd, .ref bT, .ref bF, .int al, .ref bN, .ref bP, .ref bQ, .ref bR, .int sz1, .int un, .int (b2i mo), .int tl, .int (b2i sp), .int tpo, .long fro, .int (b2i ly)])), (bR, .inl (kR, 33000, .inl (fun k => b2i (v6_2 k))))] H ∧ va_D A [(bM, .inr (3, [.int cd, .int wd, .ref bT, .ref bF, .int al, .ref bN, .ref bP, .ref bQ, .ref bR, .int sz1, .int un, .int (b2i mo), .int tl, .int (b2i sp), .int tpo, .long fro, .int (b2i ly)])), (bR, .inl (kR, 33000, .inl (fun k => b2i (v6_2 k))))] ∧ va_S A s.heap H locs ∧ lv_has ls 9 [(0, .ref bM), (1, .long jf), (3, .int ipl), (4, .int (b2i ba)), (5, .int (b2i v6_0)), (6, .int v6_1), (7, .int (b2i (v6_2 v6_1.toNatClampNeg))), (8, .int (b2i j51_0))]) (fun x ls => F0 m 81 ls [.int (b2i x), .int v6_1, .ref bR]) ?_ (fun J81 => ?_)
          · skip
            rintro j81_0 H locs ls ⟨ej81_0, hP, hD, hS, hl⟩
            have ej81_0 : (if j71_0 = v6_0 then false else true) = j81_0 := ej81_0
            have hP : va_P (dC, dI) classes [(bM, .inr (3, [.int cd, .int wd, .ref bT, .ref bF, .int al, .ref bN, .ref bP, .ref bQ, .ref bR, .int sz1, .int un, .int (b2i mo), .int tl, .int (b2i sp), .int tpo, .long fro, .int (b2i ly)])), (bR, .inl (kR, 33000, .inl (fun k => b2i (v6_2 k))))] H := hP
            have hD : va_D A [(bM, .inr (3, [.int cd, .int wd, .ref bT, .ref bF, .int al, .ref bN, .ref bP, .ref bQ, .ref bR, .int sz1, .int un, .int (b2i mo), .int tl, .int (b2i sp), .int tpo, .long fro, .int (b2i ly)])), (bR, .inl (kR, 33000, .inl (fun k => b2i (v6_2 k))))] := hD
            have hl : lv_has ls 9 [(0, .ref bM), (1, .long jf), (3, .int ipl), (4, .int (b2i ba)), (5, .int (b2i v6_0)), (6, .int v6_1), (7, .int (b2i (v6_2 v6_1.toNatClampNeg))), (8, .int (b2i j51_0))] := hl
            refine va_zast (x := b2i j81_0) hx hb hK hP hD hS 1 0 rfl rfl (row_in3 hinv c_12 hz) d_M_join_81 (fun H locs hP hD hS => ?_)
            rw [upd_b2i] at hP hD
            have hP : va_P (dC, dI) classes [(bM, .inr (3, [.int cd, .int wd, .ref bT, .ref bF, .int al, .ref bN, .ref bP, .ref bQ, .ref bR, .int sz1, .int un, .int (b2i mo), .int tl, .int (b2i sp), .int tpo, .long fro, .int (b2i ly)])), (bR, .inl (kR, 33000, .inl (fun k => b2i ((updB v6_2 v6_1.toNatClampNeg j81_0) k))))] H := hP
            have hD : va_D A [(bM, .inr (3, [.int cd, .int wd, .ref bT, .ref bF, .int al, .ref bN, .ref bP, .ref bQ, .ref bR, .int sz1, .int un, .int (b2i mo), .int tl, .int (b2i sp), .int tpo, .long fro, .int (b2i ly)])), (bR, .inl (kR, 33000, .inl (fun k => b2i ((updB v6_2 v6_1.toNatClampNeg j81_0) k))))] := hD
            refine lv_iload hx hb d_M_join_82 (lv_at hl 3 rfl) ?_
            refine cut_join (X := Bool) 0 0 (fun (x : Bool) (H : Heap) (locs : List Loc) (ls : Array Slot) => (if ba = true then if (v6_2 v6_1.toNatClampNeg) = true then if j51_0 = true then if v6_0 = true then true else false else false else if j51_0 = true then true else if v6_0 = true then true else if j51_0 = true then if v6_0 = true then true else false else false else if (v6_2 v6_1.toNatClampNeg) = true then if j51_0 = true then true else if (v6_2 v6_1.toNatClampNeg) = true then if v6_0 = true then true else if j51_0 = true then if v6_0 = true then true else false else false else if j51_0 = true then if v6_0 = true then true else false else false else if (v6_2 v6_1.toNatClampNeg) = true then if v6_0 = true then true else if j51_0 = true then if v6_0 = true then true else false else false else if j51_0 = true then if v6_0 = true then true else false else false) = x ∧ va_P (dC, dI) classes [(bM, .inr (3, [.int cd, .int wd, .ref bT, .ref bF, .int al, .ref bN, .ref bP, .ref bQ, .ref bR, .int sz1, .int un, .int (b2i mo), .int tl, .int (b2i sp), .int tpo, .long fro, .int (b2i ly)])), (bR, .inl (kR, 33000, .inl (fun k => b2i ((updB v6_2 v6_1.toNatClampNeg j81_0) k))))] H ∧ va_D A [(bM, .inr (3, [.int cd, .int wd, .ref bT, .ref bF, .int al, .ref bN, .ref bP, .ref bQ, .ref bR, .int sz1, .int un, .int (b2i mo), .int tl, .int (b2i sp), .int tpo, .long fro, .int (b2i ly)])), (bR, .inl (kR, 33000, .inl (fun k => b2i ((updB v6_2 v6_1.toNatClampNeg j81_0) k))))] ∧ va_S A s.heap H locs ∧ lv_has ls 9 [(0, .ref bM), (1, .long jf), (3, .int ipl), (4, .int (b2i ba)), (5, .int (b2i v6_0)), (6, .int v6_1), (7, .int (b2i (v6_2 v6_1.toNatClampNeg))), (8, .int (b2i j51_0))]) (fun x ls => F0 m 155 ls [.int (b2i x)]) ?_ (fun J155 => ?_)
            · skip
              rintro j155_0 H locs ls ⟨ej155_0, hP, hD, hS, hl⟩
              have ej155_0 : (if ba = true then if (v6_2 v6_1.toNatClampNeg) = true then if j51_0 = true then if v6_0 = true then true else false else false else if j51_0 = true then true else if v6_0 = true then true else if j51_0 = true then if v6_0 = true then true else false else false else if (v6_2 v6_1.toNatClampNeg) = true then if j51_0 = true then true else if (v6_2 v6_1.toNatClampNeg) = true then if v6_0 = true then true else if j51_0 = true then if v6_0 = true then true else false else false else if j51_0 = true then if v6_0 = true then true else false else false else if (v6_2 v6_1.toNatClampNeg) = true then if v6_0 = true then true else if j51_0 = true then if v6_0 = true then true else false else false else if j51_0 = true then if v6_0 = true then true else false else false) = j155_0 := ej155_0
              have hP : va_P (dC, dI) classes [(bM, .inr (3, [.int cd, .int wd, .ref bT, .ref bF, .int al, .ref bN, .ref bP, .ref bQ, .ref bR, .int sz1, .int un, .int (b2i mo), .int tl, .int (b2i sp), .int tpo, .long fro, .int (b2i ly)])), (bR, .inl (kR, 33000, .inl (fun k => b2i ((updB v6_2 v6_1.toNatClampNeg j81_0) k))))] H := hP
              have hD : va_D A [(bM, .inr (3, [.int cd, .int wd, .ref bT, .ref bF, .int al, .ref bN, .ref bP, .ref bQ, .ref bR, .int sz1, .int un, .int (b2i mo), .int tl, .int (b2i sp), .int tpo, .long fro, .int (b2i ly)])), (bR, .inl (kR, 33000, .inl (fun k => b2i ((updB v6_2 v6_1.toNatClampNeg j81_0) k))))] := hD
              have hl : lv_has ls 9 [(0, .ref bM), (1, .long jf), (3, .int ipl), (4, .int (b2i ba)), (5, .int (b2i v6_0)), (6, .int v6_1), (7, .int (b2i (v6_2 v6_1.toNatClampNeg))), (8, .int (b2i j51_0))] := hl
              refine lv_istore (lv' := [(5, .int (b2i j155_0)), (0, .ref bM), (1, .long jf), (3, .int ipl), (4, .int (b2i ba)), (6, .int v6_1), (7, .int (b2i (v6_2 v6_1.toNatClampNeg))), (8, .int (b2i j51_0))]) hx hb d_M_join_155 hl (by decide) rfl (fun ls hl => ?_)
              refine lv_iinc (v := (v6_1 + 1)) (lv' := [(6, .int (v6_1 + 1)), (5, .int (b2i j155_0)), (0, .ref bM), (1, .long jf), (3, .int ipl), (4, .int (b2i ba)), (7, .int (b2i (v6_2 v6_1.toNatClampNeg))), (8, .int (b2i j51_0))]) hx hb d_M_join_157 hl (k := 5) rfl rfl (by decide) rfl (fun ls hl => ?_)
              refine lv_goto (tgt := 6) hx hb d_M_join_160 (by decide) ?_
              exact hbk (j155_0, (v6_1 + 1), (updB v6_2 v6_1.toNatClampNeg j81_0)) (by clear hP hD hl hS; subst ej155_0; subst ej81_0; subst ej71_0; subst ej51_0; unfold nx_M_join_6; (try dsimp only); rw [if_neg c_12]) H locs ls ⟨inc_nn hinv c_12 hz, hP.sub [0, 1] rfl, hD.sub [0, 1] (by decide) rfl, hS, lv_sub hl [2, 3, 4, 5, 1, 0] rfl⟩
            · skip
              refine lv_if_eq (tgt := 120) hx hb d_M_join_84 (by decide) (fun c_84 => ?_) (fun c_84 => ?_)
              · skip
                have c_84 : ¬ ba = true := b2i_z c_84
                refine lv_iload hx hb d_M_join_120 (lv_at hl 6 rfl) ?_
                refine lv_if_eq (tgt := 130) hx hb d_M_join_122 (by decide) (fun c_122 => ?_) (fun c_122 => ?_)
                · skip
                  have c_122 : ¬ (v6_2 v6_1.toNatClampNeg) = true := b2i_z c_122
                  refine lv_iload hx hb d_M_join_130 (lv_at hl 6 rfl) ?_
                  refine lv_if_eq (tgt := 140) hx hb d_M_join_132 (by decide) (fun c_132 => ?_) (fun c_132 => ?_)
                  · skip
                    have c_132 : ¬ (v6_2 v6_1.toNatClampNeg) = true := b2i_z c_132
                    refine lv_iload hx hb d_M_join_140 (lv_at hl 7 rfl) ?_
                    refine lv_if_eq (tgt := 154) hx hb d_M_join_142 (by decide) (fun c_142 => ?_) (fun c_142 => ?_)
                    · skip
                      have c_142 : ¬ j51_0 = true := b2i_z c_142
                      refine lv_iconst (v := 0) hx hb d_M_join_154 (by decide) ?_
                      exact J155 (false) H locs ls ⟨by clear hP hD hl hS; (try dsimp only); rw [if_neg c_84, if_neg c_122, if_neg c_132, if_neg c_142], hP.sub [0, 1] rfl, hD.sub [0, 1] (by decide) rfl, hS, lv_sub hl [0, 1, 2, 3, 4, 5, 6, 7] rfl⟩
                    · skip
                      have c_142 : j51_0 = true := b2i_nz c_142
                      refine lv_iload hx hb d_M_join_145 (lv_at hl 4 rfl) ?_
                      refine lv_if_eq (tgt := 154) hx hb d_M_join_147 (by decide) (fun c_147 => ?_) (fun c_147 => ?_)
                      · skip
                        have c_147 : ¬ v6_0 = true := b2i_z c_147
                        refine lv_iconst (v := 0) hx hb d_M_join_154 (by decide) ?_
                        exact J155 (false) H locs ls ⟨by clear hP hD hl hS; (try dsimp only); rw [if_neg c_84, if_neg c_122, if_neg c_132, if_pos c_142, if_neg c_147], hP.sub [0, 1] rfl, hD.sub [0, 1] (by decide) rfl, hS, lv_sub hl [0, 1, 2, 3, 4, 5, 6, 7] rfl⟩
                      · skip
                        have c_147 : v6_0 = true := b2i_nz c_147
                        refine lv_iconst (v := 1) hx hb d_M_join_150 (by decide) ?_
                        refine lv_goto (tgt := 155) hx hb d_M_join_151 (by decide) ?_
                        exact J155 (true) H locs ls ⟨by clear hP hD hl hS; (try dsimp only); rw [if_neg c_84, if_neg c_122, if_neg c_132, if_pos c_142, if_pos c_147], hP.sub [0, 1] rfl, hD.sub [0, 1] (by decide) rfl, hS, lv_sub hl [0, 1, 2, 3, 4, 5, 6, 7] rfl⟩
                  · skip
                    have c_132 : (v6_2 v6_1.toNatClampNeg) = true := b2i_nz c_132
                    refine lv_iload hx hb d_M_join_135 (lv_at hl 4 rfl) ?_
                    refine lv_if_ne (tgt := 150) hx hb d_M_join_137 (by decide) (fun c_137 => ?_) (fun c_137 => ?_)
                    · skip
                      have c_137 : v6_0 = true := b2i_nz c_137
                      refine lv_iconst (v := 1) hx hb d_M_join_150 (by decide) ?_
                      refine lv_goto (tgt := 155) hx hb d_M_join_151 (by decide) ?_
                      exact J155 (true) H locs ls ⟨by clear hP hD hl hS; (try dsimp only); rw [if_neg c_84, if_neg c_122, if_pos c_132, if_pos c_137], hP.sub [0, 1] rfl, hD.sub [0, 1] (by decide) rfl, hS, lv_sub hl [0, 1, 2, 3, 4, 5, 6, 7] rfl⟩
                    · skip
                      have c_137 : ¬ v6_0 = true := b2i_z c_137
                      refine lv_iload hx hb d_M_join_140 (lv_at hl 7 rfl) ?_
                      refine lv_if_eq (tgt := 154) hx hb d_M_join_142 (by decide) (fun c_142 => ?_) (fun c_142 => ?_)
                      · skip
                        have c_142 : ¬ j51_0 = true := b2i_z c_142
                        refine lv_iconst (v := 0) hx hb d_M_join_154 (by decide) ?_
                        exact J155 (false) H locs ls ⟨by clear hP hD hl hS; (try dsimp only); rw [if_neg c_84, if_neg c_122, if_pos c_132, if_neg c_137, if_neg c_142], hP.sub [0, 1] rfl, hD.sub [0, 1] (by decide) rfl, hS, lv_sub hl [0, 1, 2, 3, 4, 5, 6, 7] rfl⟩
                      · skip
                        have c_142 : j51_0 = true := b2i_nz c_142
                        refine lv_iload hx hb d_M_join_145 (lv_at hl 4 rfl) ?_
                        refine lv_if_eq (tgt := 154) hx hb d_M_join_147 (by decide) (fun c_147 => ?_) (fun c_147 => ?_)
                        · skip
                          have c_147 : ¬ v6_0 = true := b2i_z c_147
                          refine lv_iconst (v := 0) hx hb d_M_join_154 (by decide) ?_
                          exact J155 (false) H locs ls ⟨by clear hP hD hl hS; (try dsimp only); rw [if_neg c_84, if_neg c_122, if_pos c_132, if_neg c_137, if_pos c_142, if_neg c_147], hP.sub [0, 1] rfl, hD.sub [0, 1] (by decide) rfl, hS, lv_sub hl [0, 1, 2, 3, 4, 5, 6, 7] rfl⟩
                        · skip
                          have c_147 : v6_0 = true := b2i_nz c_147
                          refine lv_iconst (v := 1) hx hb d_M_join_150 (by decide) ?_
                          refine lv_goto (tgt := 155) hx hb d_M_join_151 (by decide) ?_
                          exact J155 (true) H locs ls ⟨by clear hP hD hl hS; (try dsimp only); rw [if_neg c_84, if_neg c_122, if_pos c_132, if_neg c_137, if_pos c_142, if_pos c_147], hP.sub [0, 1] rfl, hD.sub [0, 1] (by decide) rfl, hS, lv_sub hl [0, 1, 2, 3, 4, 5, 6, 7] rfl⟩
                · skip
                  have c_122 : (v6_2 v6_1.toNatClampNeg) = true := b2i_nz c_122
                  refine lv_iload hx hb d_M_join_125 (lv_at hl 7 rfl) ?_
                  refine lv_if_ne (tgt := 150) hx hb d_M_join_127 (by decide) (fun c_127 => ?_) (fun c_127 => ?_)
                  · skip
                    have c_127 : j51_0 = true := b2i_nz c_127
                    refine lv_iconst (v := 1) hx hb d_M_join_150 (by decide) ?_
                    refine lv_goto (tgt := 155) hx hb d_M_join_151 (by decide) ?_
                    exact J155 (true) H locs ls ⟨by clear hP hD hl hS; (try dsimp only); rw [if_neg c_84, if_pos c_122, if_pos c_127], hP.sub [0, 1] rfl, hD.sub [0, 1] (by decide) rfl, hS, lv_sub hl [0, 1, 2, 3, 4, 5, 6, 7] rfl⟩
                  · skip
                    have c_127 : ¬ j51_0 = true := b2i_z c_127
                    refine lv_iload hx hb d_M_join_130 (lv_at hl 6 rfl) ?_
                    refine lv_if_eq (tgt := 140) hx hb d_M_join_132 (by decide) (fun c_132 => ?_) (fun c_132 => ?_)
                    · skip
                      have c_132 : ¬ (v6_2 v6_1.toNatClampNeg) = true := b2i_z c_132
                      refine lv_iload hx hb d_M_join_140 (lv_at hl 7 rfl) ?_
                      refine lv_if_eq (tgt := 154) hx hb d_M_join_142 (by decide) (fun c_142 => ?_) (fun c_142 => ?_)
                      · skip
                        have c_142 : ¬ j51_0 = true := b2i_z c_142
                        refine lv_iconst (v := 0) hx hb d_M_join_154 (by decide) ?_
                        exact J155 (false) H locs ls ⟨by clear hP hD hl hS; (try dsimp only); rw [if_neg c_84, if_pos c_122, if_neg c_127, if_neg c_132, if_neg c_142], hP.sub [0, 1] rfl, hD.sub [0, 1] (by decide) rfl, hS, lv_sub hl [0, 1, 2, 3, 4, 5, 6, 7] rfl⟩
                      · skip
                        have c_142 : j51_0 = true := b2i_nz c_142
                        refine lv_iload hx hb d_M_join_145 (lv_at hl 4 rfl) ?_
                        refine lv_if_eq (tgt := 154) hx hb d_M_join_147 (by decide) (fun c_147 => ?_) (fun c_147 => ?_)
                        · skip
                          have c_147 : ¬ v6_0 = true := b2i_z c_147
                          refine lv_iconst (v := 0) hx hb d_M_join_154 (by decide) ?_
                          exact J155 (false) H locs ls ⟨by clear hP hD hl hS; (try dsimp only); rw [if_neg c_84, if_pos c_122, if_neg c_127, if_neg c_132, if_pos c_142, if_neg c_147], hP.sub [0, 1] rfl, hD.sub [0, 1] (by decide) rfl, hS, lv_sub hl [0, 1, 2, 3, 4, 5, 6, 7] rfl⟩
                        · skip
                          have c_147 : v6_0 = true := b2i_nz c_147
                          refine lv_iconst (v := 1) hx hb d_M_join_150 (by decide) ?_
                          refine lv_goto (tgt := 155) hx hb d_M_join_151 (by decide) ?_
                          exact J155 (true) H locs ls ⟨by clear hP hD hl hS; (try dsimp only); rw [if_neg c_84, if_pos c_122, if_neg c_127, if_neg c_132, if_pos c_142, if_pos c_147], hP.sub [0, 1] rfl, hD.sub [0, 1] (by decide) rfl, hS, lv_sub hl [0, 1, 2, 3, 4, 5, 6, 7] rfl⟩
                    · skip
                      have c_132 : (v6_2 v6_1.toNatClampNeg) = true := b2i_nz c_132
                      refine lv_iload hx hb d_M_join_135 (lv_at hl 4 rfl) ?_
                      refine lv_if_ne (tgt := 150) hx hb d_M_join_137 (by decide) (fun c_137 => ?_) (fun c_137 => ?_)
                      · skip
                        have c_137 : v6_0 = true := b2i_nz c_137
                        refine lv_iconst (v := 1) hx hb d_M_join_150 (by decide) ?_
                        refine lv_goto (tgt := 155) hx hb d_M_join_151 (by decide) ?_
                        exact J155 (true) H locs ls ⟨by clear hP hD hl hS; (try dsimp only); rw [if_neg c_84, if_pos c_122, if_neg c_127, if_pos c_132, if_pos c_137], hP.sub [0, 1] rfl, hD.sub [0, 1] (by decide) rfl, hS, lv_sub hl [0, 1, 2, 3, 4, 5, 6, 7] rfl⟩
                      · skip
                        have c_137 : ¬ v6_0 = true := b2i_z c_137
                        refine lv_iload hx hb d_M_join_140 (lv_at hl 7 rfl) ?_
                        refine lv_if_eq (tgt := 154) hx hb d_M_join_142 (by decide) (fun c_142 => ?_) (fun c_142 => ?_)
                        · skip
                          have c_142 : ¬ j51_0 = true := b2i_z c_142
                          refine lv_iconst (v := 0) hx hb d_M_join_154 (by decide) ?_
                          exact J155 (false) H locs ls ⟨by clear hP hD hl hS; (try dsimp only); rw [if_neg c_84, if_pos c_122, if_neg c_127, if_pos c_132, if_neg c_137, if_neg c_142], hP.sub [0, 1] rfl, hD.sub [0, 1] (by decide) rfl, hS, lv_sub hl [0, 1, 2, 3, 4, 5, 6, 7] rfl⟩
                        · skip
                          have c_142 : j51_0 = true := b2i_nz c_142
                          refine lv_iload hx hb d_M_join_145 (lv_at hl 4 rfl) ?_
                          refine lv_if_eq (tgt := 154) hx hb d_M_join_147 (by decide) (fun c_147 => ?_) (fun c_147 => ?_)
                          · skip
                            have c_147 : ¬ v6_0 = true := b2i_z c_147
                            refine lv_iconst (v := 0) hx hb d_M_join_154 (by decide) ?_
                            exact J155 (false) H locs ls ⟨by clear hP hD hl hS; (try dsimp only); rw [if_neg c_84, if_pos c_122, if_neg c_127, if_pos c_132, if_neg c_137, if_pos c_142, if_neg c_147], hP.sub [0, 1] rfl, hD.sub [0, 1] (by decide) rfl, hS, lv_sub hl [0, 1, 2, 3, 4, 5, 6, 7] rfl⟩
                          · skip
                            have c_147 : v6_0 = true := b2i_nz c_147
                            refine lv_iconst (v := 1) hx hb d_M_join_150 (by decide) ?_
                            refine lv_goto (tgt := 155) hx hb d_M_join_151 (by decide) ?_
                            exact J155 (true) H locs ls ⟨by clear hP hD hl hS; (try dsimp only); rw [if_neg c_84, if_pos c_122, if_neg c_127, if_pos c_132, if_neg c_137, if_pos c_142, if_pos c_147], hP.sub [0, 1] rfl, hD.sub [0, 1] (by decide) rfl, hS, lv_sub hl [0, 1, 2, 3, 4, 5, 6, 7] rfl⟩
              · skip
                have c_84 : ba = true := b2i_nz c_84
                refine lv_iload hx hb d_M_join_87 (lv_at hl 6 rfl) ?_
                refine lv_if_ne (tgt := 102) hx hb d_M_join_89 (by decide) (fun c_89 => ?_) (fun c_89 => ?_)
                · skip
                  have c_89 : (v6_2 v6_1.toNatClampNeg) = true := b2i_nz c_89
                  refine lv_iload hx hb d_M_join_102 (lv_at hl 7 rfl) ?_
                  refine lv_if_eq (tgt := 116) hx hb d_M_join_104 (by decide) (fun c_104 => ?_) (fun c_104 => ?_)
                  · skip
                    have c_104 : ¬ j51_0 = true := b2i_z c_104
                    refine lv_iconst (v := 0) hx hb d_M_join_116 (by decide) ?_
                    refine lv_goto (tgt := 155) hx hb d_M_join_117 (by decide) ?_
                    exact J155 (false) H locs ls ⟨by clear hP hD hl hS; (try dsimp only); rw [if_pos c_84, if_pos c_89, if_neg c_104], hP.sub [0, 1] rfl, hD.sub [0, 1] (by decide) rfl, hS, lv_sub hl [0, 1, 2, 3, 4, 5, 6, 7] rfl⟩
                  · skip
                    have c_104 : j51_0 = true := b2i_nz c_104
                    refine lv_iload hx hb d_M_join_107 (lv_at hl 4 rfl) ?_
                    refine lv_if_eq (tgt := 116) hx hb d_M_join_109 (by decide) (fun c_109 => ?_) (fun c_109 => ?_)
                    · skip
                      have c_109 : ¬ v6_0 = true := b2i_z c_109
                      refine lv_iconst (v := 0) hx hb d_M_join_116 (by decide) ?_
                      refine lv_goto (tgt := 155) hx hb d_M_join_117 (by decide) ?_
                      exact J155 (false) H locs ls ⟨by clear hP hD hl hS; (try dsimp only); rw [if_pos c_84, if_pos c_89, if_pos c_104, if_neg c_109], hP.sub [0, 1] rfl, hD.sub [0, 1] (by decide) rfl, hS, lv_sub hl [0, 1, 2, 3, 4, 5, 6, 7] rfl⟩
                    · skip
                      have c_109 : v6_0 = true := b2i_nz c_109
                      refine lv_iconst (v := 1) hx hb d_M_join_112 (by decide) ?_
                      refine lv_goto (tgt := 155) hx hb d_M_join_113 (by decide) ?_
                      exact J155 (true) H locs ls ⟨by clear hP hD hl hS; (try dsimp only); rw [if_pos c_84, if_pos c_89, if_pos c_104, if_pos c_109], hP.sub [0, 1] rfl, hD.sub [0, 1] (by decide) rfl, hS, lv_sub hl [0, 1, 2, 3, 4, 5, 6, 7] rfl⟩
                · skip
                  have c_89 : ¬ (v6_2 v6_1.toNatClampNeg) = true := b2i_z c_89
                  refine lv_iload hx hb d_M_join_92 (lv_at hl 7 rfl) ?_
                  refine lv_if_ne (tgt := 112) hx hb d_M_join_94 (by decide) (fun c_94 => ?_) (fun c_94 => ?_)
                  · skip
                    have c_94 : j51_0 = true := b2i_nz c_94
                    refine lv_iconst (v := 1) hx hb d_M_join_112 (by decide) ?_
                    refine lv_goto (tgt := 155) hx hb d_M_join_113 (by decide) ?_
                    exact J155 (true) H locs ls ⟨by clear hP hD hl hS; (try dsimp only); rw [if_pos c_84, if_neg c_89, if_pos c_94], hP.sub [0, 1] rfl, hD.sub [0, 1] (by decide) rfl, hS, lv_sub hl [0, 1, 2, 3, 4, 5, 6, 7] rfl⟩
                  · skip
                    have c_94 : ¬ j51_0 = true := b2i_z c_94
                    refine lv_iload hx hb d_M_join_97 (lv_at hl 4 rfl) ?_
                    refine lv_if_ne (tgt := 112) hx hb d_M_join_99 (by decide) (fun c_99 => ?_) (fun c_99 => ?_)
                    · skip
                      have c_99 : v6_0 = true := b2i_nz c_99
                      refine lv_iconst (v := 1) hx hb d_M_join_112 (by decide) ?_
                      refine lv_goto (tgt := 155) hx hb d_M_join_113 (by decide) ?_
                      exact J155 (true) H locs ls ⟨by clear hP hD hl hS; (try dsimp only); rw [if_pos c_84, if_neg c_89, if_neg c_94, if_pos c_99], hP.sub [0, 1] rfl, hD.sub [0, 1] (by decide) rfl, hS, lv_sub hl [0, 1, 2, 3, 4, 5, 6, 7] rfl⟩
                    · skip
                      have c_99 : ¬ v6_0 = true := b2i_z c_99
                      refine lv_iload hx hb d_M_join_102 (lv_at hl 7 rfl) ?_
                      refine lv_if_eq (tgt := 116) hx hb d_M_join_104 (by decide) (fun c_104 => ?_) (fun c_104 => ?_)
                      · skip
                        have c_104 : ¬ j51_0 = true := b2i_z c_104
                        refine lv_iconst (v := 0) hx hb d_M_join_116 (by decide) ?_
                        refine lv_goto (tgt := 155) hx hb d_M_join_117 (by decide) ?_
                        exact J155 (false) H locs ls ⟨by clear hP hD hl hS; (try dsimp only); rw [if_pos c_84, if_neg c_89, if_neg c_94, if_neg c_99, if_neg c_104], hP.sub [0, 1] rfl, hD.sub [0, 1] (by decide) rfl, hS, lv_sub hl [0, 1, 2, 3, 4, 5, 6, 7] rfl⟩
                      · skip
                        have c_104 : j51_0 = true := b2i_nz c_104
                        refine lv_iload hx hb d_M_join_107 (lv_at hl 4 rfl) ?_
                        refine lv_if_eq (tgt := 116) hx hb d_M_join_109 (by decide) (fun c_109 => ?_) (fun c_109 => ?_)
                        · skip
                          have c_109 : ¬ v6_0 = true := b2i_z c_109
                          refine lv_iconst (v := 0) hx hb d_M_join_116 (by decide) ?_
                          refine lv_goto (tgt := 155) hx hb d_M_join_117 (by decide) ?_
                          exact J155 (false) H locs ls ⟨by clear hP hD hl hS; (try dsimp only); rw [if_pos c_84, if_neg c_89, if_neg c_94, if_neg c_99, if_pos c_104, if_neg c_109], hP.sub [0, 1] rfl, hD.sub [0, 1] (by decide) rfl, hS, lv_sub hl [0, 1, 2, 3, 4, 5, 6, 7] rfl⟩
                        · skip
                          have c_109 : v6_0 = true := b2i_nz c_109
                          refine lv_iconst (v := 1) hx hb d_M_join_112 (by decide) ?_
                          refine lv_goto (tgt := 155) hx hb d_M_join_113 (by decide) ?_
                          exact J155 (true) H locs ls ⟨by clear hP hD hl hS; (try dsimp only); rw [if_pos c_84, if_neg c_89, if_neg c_94, if_neg c_99, if_pos c_104, if_pos c_109], hP.sub [0, 1] rfl, hD.sub [0, 1] (by decide) rfl, hS, lv_sub hl [0, 1, 2, 3, 4, 5, 6, 7] rfl⟩
          · skip
            refine lv_icmp_eq (tgt := 80) hx hb d_M_join_73 (by decide) (fun c_73 => ?_) (fun c_73 => ?_)
            · skip
              have c_73 : j71_0 = v6_0 := b2i_inj c_73
              refine lv_iconst (v := 0) hx hb d_M_join_80 (by decide) ?_
              exact J81 (false) H locs ls ⟨by clear hP hD hl hS; (try dsimp only); rw [if_pos c_73], hP.sub [0, 1] rfl, hD.sub [0, 1] (by decide) rfl, hS, lv_sub hl [0, 1, 2, 3, 4, 5, 6, 7] rfl⟩
            · skip
              have c_73 : ¬ j71_0 = v6_0 := fun h9 => c_73 (by rw [h9])
              refine lv_iconst (v := 1) hx hb d_M_join_76 (by decide) ?_
              refine lv_goto (tgt := 81) hx hb d_M_join_77 (by decide) ?_
              exact J81 (true) H locs ls ⟨by clear hP hD hl hS; (try dsimp only); rw [if_neg c_73], hP.sub [0, 1] rfl, hD.sub [0, 1] (by decide) rfl, hS, lv_sub hl [0, 1, 2, 3, 4, 5, 6, 7] rfl⟩
        · skip
          refine lv_icmp_eq (tgt := 70) hx hb d_M_join_63 (by decide) (fun c_63 => ?_) (fun c_63 => ?_)
          · skip
            have c_63 : (v6_2 v6_1.toNatClampNeg) = j51_0 := b2i_inj c_63
            refine lv_iconst (v := 0) hx hb d_M_join_70 (by decide) ?_
            exact J71 (false) H locs ls ⟨by clear hP hD hl hS; (try dsimp only); rw [if_pos c_63], hP.sub [0, 1] rfl, hD.sub [0, 1] (by decide) rfl, hS, lv_sub hl [1, 2, 3, 4, 5, 6, 7, 0] rfl⟩
          · skip
            have c_63 : ¬ (v6_2 v6_1.toNatClampNeg) = j51_0 := fun h9 => c_63 (by rw [h9])
            refine lv_iconst (v := 1) hx hb d_M_join_66 (by decide) ?_
            refine lv_goto (tgt := 71) hx hb d_M_join_67 (by decide) ?_
            exact J71 (true) H locs ls ⟨by clear hP hD hl hS; (try dsimp only); rw [if_neg c_63], hP.sub [0, 1] rfl, hD.sub [0, 1] (by decide) rfl, hS, lv_sub hl [1, 2, 3, 4, 5, 6, 7, 0] rfl⟩
      · skip
        refine lv_icmp_ge (tgt := 50) hx hb d_M_join_30 (by decide) (fun c_30 => ?_) (fun c_30 => ?_)
        · skip
          refine lv_iconst (v := 0) hx hb d_M_join_50 (by decide) ?_
          exact J51 (false) H locs ls ⟨by clear hP hD hl hS; (try dsimp only); rw [if_pos c_30], hP.sub [0, 1] rfl, hD.sub [0, 1] (by decide) rfl, hS, lv_sub hl [1, 2, 3, 4, 5, 6, 0] rfl⟩
        · skip
          refine lv_lload_n hx hb d_M_join_33 rfl (lv_at hl 2 rfl) ?_
          refine lv_iload hx hb d_M_join_34 (lv_at hl 6 rfl) ?_
          refine lv_iload_n hx hb d_M_join_36 rfl (lv_at hl 3 rfl) ?_
          refine lv_isub hx hb d_M_join_37 ?_
          refine lv_lshr (v := (aR jf (v6_1 - ipl))) hx hb d_M_join_38 rfl ?_
          refine lv_lconst (v := 1) hx hb d_M_join_39 (by decide) ?_
          refine lv_land hx hb d_M_join_40 ?_
          refine lv_lconst (v := 1) hx hb d_M_join_41 (by decide) ?_
          refine W.lcmp hx hb d_M_join_42 ?_
          refine lv_if_ne (tgt := 50) hx hb d_M_join_43 (by decide) (fun c_43 => ?_) (fun c_43 => ?_)
          · skip
            have c_43 : ¬ ((aR jf (v6_1 - ipl)) &&& 1) = 1 := fun h9 => c_43 ((lg_cmp_eq _ _).mpr h9)
            refine lv_iconst (v := 0) hx hb d_M_join_50 (by decide) ?_
            exact J51 (false) H locs ls ⟨by clear hP hD hl hS; (try dsimp only); rw [if_neg c_30, if_neg c_43], hP.sub [0, 1] rfl, hD.sub [0, 1] (by decide) rfl, hS, lv_sub hl [1, 2, 3, 4, 5, 6, 0] rfl⟩
          · skip
            have c_43 : ((aR jf (v6_1 - ipl)) &&& 1) = 1 := (lg_cmp_eq _ _).mp c_43
            refine lv_iconst (v := 1) hx hb d_M_join_46 (by decide) ?_
            refine lv_goto (tgt := 51) hx hb d_M_join_47 (by decide) ?_
            exact J51 (true) H locs ls ⟨by clear hP hD hl hS; (try dsimp only); rw [if_neg c_30, if_pos c_43], hP.sub [0, 1] rfl, hD.sub [0, 1] (by decide) rfl, hS, lv_sub hl [1, 2, 3, 4, 5, 6, 0] rfl⟩
  · skip
    rintro ⟨v6_0, v6_1, v6_2⟩ H locs ls ev ⟨hinv, hP, hD, hS, hl⟩
    have hinv : 0 ≤ v6_1.toInt := hinv
    have ev6_0 : (lrun (nx_M_join_6 sz1 jf ipl ba) 33000 (false, ipl, rb)).1 = v6_0 := by rw [← ev]
    have ev6_1 : (lrun (nx_M_join_6 sz1 jf ipl ba) 33000 (false, ipl, rb)).2.1 = v6_1 := by rw [← ev]
    have ev6_2 : (lrun (nx_M_join_6 sz1 jf ipl ba) 33000 (false, ipl, rb)).2.2 = v6_2 := by rw [← ev]
    clear ev
    have hP : va_P (dC, dI) classes [(bM, .inr (3, [.int cd, .int wd, .ref bT, .ref bF, .int al, .ref bN, .ref bP, .ref bQ, .ref bR, .int sz1, .int un, .int (b2i mo), .int tl, .int (b2i sp), .int tpo, .long fro, .int (b2i ly)])), (bR, .inl (kR, 33000, .inl (fun k => b2i (v6_2 k))))] H := hP
    have hD : va_D A [(bM, .inr (3, [.int cd, .int wd, .ref bT, .ref bF, .int al, .ref bN, .ref bP, .ref bQ, .ref bR, .int sz1, .int un, .int (b2i mo), .int tl, .int (b2i sp), .int tpo, .long fro, .int (b2i ly)])), (bR, .inl (kR, 33000, .inl (fun k => b2i (v6_2 k))))] := hD
    have hl : lv_has ls 9 [(0, .ref bM), (1, .long jf), (3, .int ipl), (4, .int (b2i ba)), (5, .int (b2i v6_0)), (6, .int v6_1)] := hl
    have hE : g_M_join sz1 rb jf ipl ba = (v6_2) := by clear hP hD hl hS; subst ev6_2; subst ev6_1; subst ev6_0; unfold g_M_join; rfl
    have hP9 : va_P (dC, dI) classes [(bM, .inr (3, [.int cd, .int wd, .ref bT, .ref bF, .int al, .ref bN, .ref bP, .ref bQ, .ref bR, .int sz1, .int un, .int (b2i mo), .int tl, .int (b2i sp), .int tpo, .long fro, .int (b2i ly)])), (bR, .inl (kR, 33000, .inl (fun k => b2i ((g_M_join sz1 rb jf ipl ba) k))))] H := by rw [hE]; exact hP.sub [0, 1] rfl
    have hD9 : va_D A [(bM, .inr (3, [.int cd, .int wd, .ref bT, .ref bF, .int al, .ref bN, .ref bP, .ref bQ, .ref bR, .int sz1, .int un, .int (b2i mo), .int tl, .int (b2i sp), .int tpo, .long fro, .int (b2i ly)])), (bR, .inl (kR, 33000, .inl (fun k => b2i ((g_M_join sz1 rb jf ipl ba) k))))] := by rw [hE]; exact hD.sub [0, 1] (by decide) rfl
    exact W.vret hx hb hr (fun t ht hW => ⟨⟨(), rfl, trivial, by rw [ht]; exact hP9, hD9⟩, hS.F ht⟩) hS.2.2 d_M_join_163
theorem d_M_isLess_0 : decode b_M_isLess 0 = .ok (.aload_n 0, 1) := by decide +kernel
theorem d_M_isLess_1 : decode b_M_isLess 1 = .ok (.iconst 0, 1) := by decide +kernel
theorem d_M_isLess_2 : decode b_M_isLess 2 = .ok (.invokevirtual 106, 3) := by decide +kernel
theorem d_M_isLess_5 : decode b_M_isLess 5 = .ok (.aload_n 0, 1) := by decide +kernel
theorem d_M_isLess_6 : decode b_M_isLess 6 = .ok (.iconst 1, 1) := by decide +kernel
theorem d_M_isLess_7 : decode b_M_isLess 7 = .ok (.invokevirtual 106, 3) := by decide +kernel
theorem d_M_isLess_10 : decode b_M_isLess 10 = .ok (.if_icmp .ge 11, 3) := by decide +kernel
theorem d_M_isLess_21 : decode b_M_isLess 21 = .ok (.aload_n 0, 1) := by decide +kernel
theorem d_M_isLess_22 : decode b_M_isLess 22 = .ok (.iconst 1, 1) := by decide +kernel
theorem d_M_isLess_23 : decode b_M_isLess 23 = .ok (.invokevirtual 106, 3) := by decide +kernel
theorem d_M_isLess_13 : decode b_M_isLess 13 = .ok (.aload_n 0, 1) := by decide +kernel
theorem d_M_isLess_14 : decode b_M_isLess 14 = .ok (.iconst 0, 1) := by decide +kernel
theorem d_M_isLess_15 : decode b_M_isLess 15 = .ok (.invokevirtual 106, 3) := by decide +kernel
theorem d_M_isLess_18 : decode b_M_isLess 18 = .ok (.goto 8, 3) := by decide +kernel
theorem d_M_isLess_26 : decode b_M_isLess 26 = .ok (.istore_n 1, 1) := by decide +kernel
theorem d_M_isLess_27 : decode b_M_isLess 27 = .ok (.aload_n 0, 1) := by decide +kernel
theorem d_M_isLess_28 : decode b_M_isLess 28 = .ok (.iconst 0, 1) := by decide +kernel
theorem d_M_isLess_29 : decode b_M_isLess 29 = .ok (.invokevirtual 106, 3) := by decide +kernel
theorem d_M_isLess_32 : decode b_M_isLess 32 = .ok (.iload_n 1, 1) := by decide +kernel
theorem d_M_isLess_33 : decode b_M_isLess 33 = .ok (.isub, 1) := by decide +kernel
theorem d_M_isLess_34 : decode b_M_isLess 34 = .ok (.istore_n 2, 1) := by decide +kernel
theorem d_M_isLess_35 : decode b_M_isLess 35 = .ok (.aload_n 0, 1) := by decide +kernel
theorem d_M_isLess_36 : decode b_M_isLess 36 = .ok (.iconst 1, 1) := by decide +kernel
theorem d_M_isLess_37 : decode b_M_isLess 37 = .ok (.invokevirtual 106, 3) := by decide +kernel
theorem d_M_isLess_40 : decode b_M_isLess 40 = .ok (.iload_n 1, 1) := by decide +kernel
theorem d_M_isLess_41 : decode b_M_isLess 41 = .ok (.isub, 1) := by decide +kernel
theorem d_M_isLess_42 : decode b_M_isLess 42 = .ok (.istore_n 3, 1) := by decide +kernel
theorem d_M_isLess_43 : decode b_M_isLess 43 = .ok (.iconst 0, 1) := by decide +kernel
theorem d_M_isLess_44 : decode b_M_isLess 44 = .ok (.istore 4, 2) := by decide +kernel
theorem d_M_isLess_46 : decode b_M_isLess 46 = .ok (.iconst 0, 1) := by decide +kernel
theorem d_M_isLess_47 : decode b_M_isLess 47 = .ok (.istore 5, 2) := by decide +kernel
theorem d_M_isLess_49 : decode b_M_isLess 49 = .ok (.iload 5, 2) := by decide +kernel
theorem d_M_isLess_51 : decode b_M_isLess 51 = .ok (.iload_n 2, 1) := by decide +kernel
theorem d_M_isLess_52 : decode b_M_isLess 52 = .ok (.iload_n 3, 1) := by decide +kernel
theorem d_M_isLess_53 : decode b_M_isLess 53 = .ok (.if_icmp .ge 7, 3) := by decide +kernel
theorem d_M_isLess_60 : decode b_M_isLess 60 = .ok (.iload_n 2, 1) := by decide +kernel
theorem d_M_isLess_56 : decode b_M_isLess 56 = .ok (.iload_n 3, 1) := by decide +kernel
theorem d_M_isLess_57 : decode b_M_isLess 57 = .ok (.goto 4, 3) := by decide +kernel
theorem d_M_isLess_61 : decode b_M_isLess 61 = .ok (.bipush 64, 2) := by decide +kernel
theorem d_M_isLess_63 : decode b_M_isLess 63 = .ok (.iadd, 1) := by decide +kernel
theorem d_M_isLess_64 : decode b_M_isLess 64 = .ok (.if_icmp .ge 105, 3) := by decide +kernel
theorem d_M_isLess_67 : decode b_M_isLess 67 = .ok (.iload 5, 2) := by decide +kernel
theorem d_M_isLess_69 : decode b_M_isLess 69 = .ok (.iload_n 2, 1) := by decide +kernel
theorem d_M_isLess_70 : decode b_M_isLess 70 = .ok (.if_icmp .lt 34, 3) := by decide +kernel
theorem d_M_isLess_104 : decode b_M_isLess 104 = .ok (.iconst 0, 1) := by decide +kernel
theorem d_M_isLess_73 : decode b_M_isLess 73 = .ok (.iload 5, 2) := by decide +kernel
theorem d_M_isLess_75 : decode b_M_isLess 75 = .ok (.iload_n 2, 1) := by decide +kernel
theorem d_M_isLess_76 : decode b_M_isLess 76 = .ok (.isub, 1) := by decide +kernel
theorem d_M_isLess_77 : decode b_M_isLess 77 = .ok (.bipush 64, 2) := by decide +kernel
theorem d_M_isLess_79 : decode b_M_isLess 79 = .ok (.if_icmp .ge 25, 3) := by decide +kernel
theorem d_M_isLess_82 : decode b_M_isLess 82 = .ok (.aload_n 0, 1) := by decide +kernel
theorem d_M_isLess_83 : decode b_M_isLess 83 = .ok (.getfield 28, 3) := by decide +kernel
theorem d_M_isLess_86 : decode b_M_isLess 86 = .ok (.iconst 0, 1) := by decide +kernel
theorem d_M_isLess_87 : decode b_M_isLess 87 = .ok (.laload, 1) := by decide +kernel
theorem d_M_isLess_88 : decode b_M_isLess 88 = .ok (.iload 5, 2) := by decide +kernel
theorem d_M_isLess_90 : decode b_M_isLess 90 = .ok (.iload_n 2, 1) := by decide +kernel
theorem d_M_isLess_91 : decode b_M_isLess 91 = .ok (.isub, 1) := by decide +kernel
theorem d_M_isLess_92 : decode b_M_isLess 92 = .ok (.lshr, 1) := by decide +kernel
theorem d_M_isLess_93 : decode b_M_isLess 93 = .ok (.lconst 1, 1) := by decide +kernel
theorem d_M_isLess_94 : decode b_M_isLess 94 = .ok (.land, 1) := by decide +kernel
theorem d_M_isLess_95 : decode b_M_isLess 95 = .ok (.lconst 1, 1) := by decide +kernel
theorem d_M_isLess_96 : decode b_M_isLess 96 = .ok (.lcmp, 1) := by decide +kernel
theorem d_M_isLess_97 : decode b_M_isLess 97 = .ok (.ifCond .ne 7, 3) := by decide +kernel
theorem d_M_isLess_100 : decode b_M_isLess 100 = .ok (.iconst 1, 1) := by decide +kernel
theorem d_M_isLess_101 : decode b_M_isLess 101 = .ok (.goto 4, 3) := by decide +kernel
theorem d_M_isLess_105 : decode b_M_isLess 105 = .ok (.istore 6, 2) := by decide +kernel
theorem d_M_isLess_107 : decode b_M_isLess 107 = .ok (.iload 5, 2) := by decide +kernel
theorem d_M_isLess_109 : decode b_M_isLess 109 = .ok (.iload_n 3, 1) := by decide +kernel
theorem d_M_isLess_110 : decode b_M_isLess 110 = .ok (.if_icmp .lt 34, 3) := by decide +kernel
theorem d_M_isLess_144 : decode b_M_isLess 144 = .ok (.iconst 0, 1) := by decide +kernel
theorem d_M_isLess_113 : decode b_M_isLess 113 = .ok (.iload 5, 2) := by decide +kernel
theorem d_M_isLess_115 : decode b_M_isLess 115 = .ok (.iload_n 3, 1) := by decide +kernel
theorem d_M_isLess_116 : decode b_M_isLess 116 = .ok (.isub, 1) := by decide +kernel
theorem d_M_isLess_117 : decode b_M_isLess 117 = .ok (.bipush 64, 2) := by decide +kernel
theorem d_M_isLess_119 : decode b_M_isLess 119 = .ok (.if_icmp .ge 25, 3) := by decide +kernel
theorem d_M_isLess_122 : decode b_M_isLess 122 = .ok (.aload_n 0, 1) := by decide +kernel
theorem d_M_isLess_123 : decode b_M_isLess 123 = .ok (.getfield 28, 3) := by decide +kernel
theorem d_M_isLess_126 : decode b_M_isLess 126 = .ok (.iconst 1, 1) := by decide +kernel
theorem d_M_isLess_127 : decode b_M_isLess 127 = .ok (.laload, 1) := by decide +kernel
theorem d_M_isLess_128 : decode b_M_isLess 128 = .ok (.iload 5, 2) := by decide +kernel
theorem d_M_isLess_130 : decode b_M_isLess 130 = .ok (.iload_n 3, 1) := by decide +kernel
theorem d_M_isLess_131 : decode b_M_isLess 131 = .ok (.isub, 1) := by decide +kernel
theorem d_M_isLess_132 : decode b_M_isLess 132 = .ok (.lshr, 1) := by decide +kernel
theorem d_M_isLess_133 : decode b_M_isLess 133 = .ok (.lconst 1, 1) := by decide +kernel
theorem d_M_isLess_134 : decode b_M_isLess 134 = .ok (.land, 1) := by decide +kernel
theorem d_M_isLess_135 : decode b_M_isLess 135 = .ok (.lconst 1, 1) := by decide +kernel
theorem d_M_isLess_136 : decode b_M_isLess 136 = .ok (.lcmp, 1) := by decide +kernel
theorem d_M_isLess_137 : decode b_M_isLess 137 = .ok (.ifCond .ne 7, 3) := by decide +kernel
theorem d_M_isLess_140 : decode b_M_isLess 140 = .ok (.iconst 1, 1) := by decide +kernel
theorem d_M_isLess_141 : decode b_M_isLess 141 = .ok (.goto 4, 3) := by decide +kernel
theorem d_M_isLess_145 : decode b_M_isLess 145 = .ok (.istore 7, 2) := by decide +kernel
theorem d_M_isLess_147 : decode b_M_isLess 147 = .ok (.iload 6, 2) := by decide +kernel
theorem d_M_isLess_149 : decode b_M_isLess 149 = .ok (.iload 7, 2) := by decide +kernel
theorem d_M_isLess_151 : decode b_M_isLess 151 = .ok (.if_icmp .ne 8, 3) := by decide +kernel
theorem d_M_isLess_159 : decode b_M_isLess 159 = .ok (.iload 7, 2) := by decide +kernel
theorem d_M_isLess_154 : decode b_M_isLess 154 = .ok (.iload 4, 2) := by decide +kernel
theorem d_M_isLess_156 : decode b_M_isLess 156 = .ok (.goto 5, 3) := by decide +kernel
theorem d_M_isLess_161 : decode b_M_isLess 161 = .ok (.istore 4, 2) := by decide +kernel
theorem d_M_isLess_163 : decode b_M_isLess 163 = .ok (.iinc 5 1, 3) := by decide +kernel
theorem d_M_isLess_166 : decode b_M_isLess 166 = .ok (.goto (-117), 3) := by decide +kernel
theorem d_M_isLess_169 : decode b_M_isLess 169 = .ok (.iload 4, 2) := by decide +kernel
theorem d_M_isLess_171 : decode b_M_isLess 171 = .ok (.ireturn, 1) := by decide +kernel
set_option maxHeartbeats 4000000 in
set_option maxRecDepth 100000 in
theorem c_M_isLess (l : Launch) (dC : Nat → ClassId) (dI : Nat → Nat → Nat) (kP : ClassId) (kQ : ClassId) (bM : Nat) (bP : Nat) (bQ : Nat) (bT : Nat) (bF : Nat) (bN : Nat) (bR : Nat) (sz : Nat) (cd : Int32) (wd : Int32) (al : Int32) (sz1 : Int32) (un : Int32) (mo : Bool) (tl : Int32) (sp : Bool) (tpo : Int32) (fro : Int64) (ly : Bool) (pw : Nat → Int32) (pt : Nat → Int64) (hpw : okp pw) : Met l y_M_isLess w_M_isLess ({ frames := 1, cells := 0, slots := 0, locals := 21 }) (cPc (dC, dI) [(kP, .int), (kQ, .long)] [.ref bM] [(bM, .inr (3, [.int cd, .int wd, .ref bT, .ref bF, .int al, .ref bN, .ref bP, .ref bQ, .ref bR, .int sz1, .int un, .int (b2i mo), .int tl, .int (b2i sp), .int tpo, .long fro, .int (b2i ly)])), (bP, .inl (kP, 2, .inl pw)), (bQ, .inl (kQ, 2, .inr (.inl pt)))] sz) (va_Qi (fun (r : Int32) (_ : Unit) => r = b2i ((g_M_isLess pw pt))) (fun _ t => va_P (dC, dI) classes [(bM, .inr (3, [.int cd, .int wd, .ref bT, .ref bF, .int al, .ref bN, .ref bP, .ref bQ, .ref bR, .int sz1, .int un, .int (b2i mo), .int tl, .int (b2i sp), .int tpo, .long fro, .int (b2i ly)])), (bP, .inl (kP, 2, .inl pw)), (bQ, .inl (kQ, 2, .inr (.inl pt)))] t.heap ∧ va_D (va_A [(bM, .inr (3, [.int cd, .int wd, .ref bT, .ref bF, .int al, .ref bN, .ref bP, .ref bQ, .ref bR, .int sz1, .int un, .int (b2i mo), .int tl, .int (b2i sp), .int tpo, .long fro, .int (b2i ly)])), (bP, .inl (kP, 2, .inl pw)), (bQ, .inl (kQ, 2, .inr (.inl pt)))] sz) [(bM, .inr (3, [.int cd, .int wd, .ref bT, .ref bF, .int al, .ref bN, .ref bP, .ref bQ, .ref bR, .int sz1, .int un, .int (b2i mo), .int tl, .int (b2i sp), .int tpo, .long fro, .int (b2i ly)])), (bP, .inl (kP, 2, .inl pw)), (bQ, .inl (kQ, 2, .inr (.inl pt)))]) (va_A [(bM, .inr (3, [.int cd, .int wd, .ref bT, .ref bF, .int al, .ref bN, .ref bP, .ref bQ, .ref bR, .int sz1, .int un, .int (b2i mo), .int tl, .int (b2i sp), .int tpo, .long fro, .int (b2i ly)])), (bP, .inl (kP, 2, .inl pw)), (bQ, .inl (kQ, 2, .inr (.inl pt)))] sz)) 0 0 (va_A [(bM, .inr (3, [.int cd, .int wd, .ref bT, .ref bF, .int al, .ref bN, .ref bP, .ref bQ, .ref bR, .int sz1, .int un, .int (b2i mo), .int tl, .int (b2i sp), .int tpo, .long fro, .int (b2i ly)])), (bP, .inl (kP, 2, .inl pw)), (bQ, .inl (kQ, 2, .inr (.inl pt)))] sz) := by
  refine Met.ofW (cc := b_M_isLess) (maxL := 8) (ret := (some .boolean)) (by decide) rfl ?_
  intro p e s m args below meth c s₁ B hml hv
  obtain ⟨rfl, hsz, hP, hK, hD0, hnw⟩ := hv
  have hx := B.exec
  have hb := B.bytes
  have hr := B.returns
  have hts := atoms_spec (ws := w_M_isLess) B.pre
  have htA : ∀ w ∈ wAll, w.before _ s = true := fun w h => hts w (List.mem_cons_of_mem _ h)
  have hown : s.vm.findClass R_M = some m.cls := findClass_of_methodNamed B.named
  have hlocks := B.notSynchronized
  subst hsz
  have hD := hD0.self (sz := s.heap.size)
  generalize hAe : va_A [(bM, .inr (3, [.int cd, .int wd, .ref bT, .ref bF, .int al, .ref bN, .ref bP, .ref bQ, .ref bR, .int sz1, .int un, .int (b2i mo), .int tl, .int (b2i sp), .int tpo, .long fro, .int (b2i ly)])), (bP, .inl (kP, 2, .inl pw)), (bQ, .inl (kQ, 2, .inr (.inl pt)))] s.heap.size = A at hD ⊢
  have hA : ∀ q : Nat, s.heap.size ≤ q → A q := fun q h => by rw [← hAe]; exact Or.inr h
  have hS : va_S A s.heap s.heap [] := va_S.rf
  have hP : va_P (dC, dI) classes [(bM, .inr (3, [.int cd, .int wd, .ref bT, .ref bF, .int al, .ref bN, .ref bP, .ref bQ, .ref bR, .int sz1, .int un, .int (b2i mo), .int tl, .int (b2i sp), .int tpo, .long fro, .int (b2i ly)])), (bP, .inl (kP, 2, .inl pw)), (bQ, .inl (kQ, 2, .inr (.inl pt)))] s.heap := hP
  obtain ⟨H, eH⟩ : ∃ z, z = s.heap := ⟨_, rfl⟩
  rw [← eH] at hP
  have hS : va_S A s.heap H [] := by rw [eH]; exact hS
  rw [← eH]
  generalize ([] : List Loc) = locs at hS ⊢
  have hl := lv_entry ([.ref bM]) (n := 8) (Nat.le_of_ble_eq_true rfl)
  rw [lg_entry_eq]
  generalize (lg_sl ([.ref bM]) ++ List.replicate (8 - (lg_sl ([.ref bM])).length) Slot.unset).toArray = ls at hl ⊢
  have hl : lv_has ls 8 [(0, .ref bM)] := hl
  refine lv_aload_n hx hb d_M_isLess_0 rfl (lv_at hl 0 rfl) ?_
  refine lv_iconst (v := 0) hx hb d_M_isLess_1 (by decide) ?_
  have hPc := hP.sub (ws' := [(bM, .inr (3, [.int cd, .int wd, .ref bT, .ref bF, .int al, .ref bN, .ref bP, .ref bQ, .ref bR, .int sz1, .int un, .int (b2i mo), .int tl, .int (b2i sp), .int tpo, .long fro, .int (b2i ly)])), (bP, .inl (kP, 2, .inl pw))]) [0, 1] rfl
  have hDc := hD.sub (ws' := [(bM, .inr (3, [.int cd, .int wd, .ref bT, .ref bF, .int al, .ref bN, .ref bP, .ref bQ, .ref bR, .int sz1, .int un, .int (b2i mo), .int tl, .int (b2i sp), .int tpo, .long fro, .int (b2i ly)])), (bP, .inl (kP, 2, .inl pw))]) [0, 1] (by decide) rfl
  have hKc := hK.sub (tys' := [(kP, .int)]) [0] rfl
  have hFc := va_free (wc := [(bM, .inr (3, [.int cd, .int wd, .ref bT, .ref bF, .int al, .ref bN, .ref bP, .ref bQ, .ref bR, .int sz1, .int un, .int (b2i mo), .int tl, .int (b2i sp), .int tpo, .long fro, .int (b2i ly)])), (bP, .inl (kP, 2, .inl pw))]) hD hS hA [0, 1] rfl
  refine cc_i (va_runV (As := [.int 0]) (rest := []) ⟨hx, hb, hml, hown, htA⟩ (c_M_unitOf l dC dI kP bM bP bT bF bN bQ bR H.size cd wd al sz1 un mo tl sp tpo fro ly pw 0 in2_0) (cwV 1 htA (gi_V k_308 k_309 k_310 k_263 (gi_code k_262)) rfl rfl rfl (by decide +kernel) ⟨Nat.le_of_ble_eq_true rfl, Nat.le_of_ble_eq_true rfl⟩) (pre_V hnw hPc hKc hDc (ci := 3) (q0 := 0) rfl rfl) rfl rfl hl.1 rfl (lv_room (Nat.le_of_ble_eq_true rfl)) d_M_isLess_2 ⟨Nat.le_of_ble_eq_true rfl, Nat.le_of_ble_eq_true rfl⟩) hS hFc hP hD [0, 1] [2] (wr := [(bQ, .inl (kQ, 2, .inr (.inl pt)))]) rfl rfl (by decide) (by decide) (fun H locs hP hD hS => ?_)
  have hP : va_P (dC, dI) classes [(bQ, .inl (kQ, 2, .inr (.inl pt))), (bM, .inr (3, [.int cd, .int wd, .ref bT, .ref bF, .int al, .ref bN, .ref bP, .ref bQ, .ref bR, .int sz1, .int un, .int (b2i mo), .int tl, .int (b2i sp), .int tpo, .long fro, .int (b2i ly)])), (bP, .inl (kP, 2, .inl pw))] H := hP
  have hD : va_D A [(bQ, .inl (kQ, 2, .inr (.inl pt))), (bM, .inr (3, [.int cd, .int wd, .ref bT, .ref bF, .int al, .ref bN, .ref bP, .ref bQ, .ref bR, .int sz1, .int un, .int (b2i mo), .int tl, .int (b2i sp), .int tpo, .long fro, .int (b2i ly)])), (bP, .inl (kP, 2, .inl pw))] := hD
  refine lv_aload_n hx hb d_M_isLess_5 rfl (lv_at hl 0 rfl) ?_
  refine lv_iconst (v := 1) hx hb d_M_isLess_6 (by decide) ?_
  have hPc := hP.sub (ws' := [(bM, .inr (3, [.int cd, .int wd, .ref bT, .ref bF, .int al, .ref bN, .ref bP, .ref bQ, .ref bR, .int sz1, .int un, .int (b2i mo), .int tl, .int (b2i sp), .int tpo, .long fro, .int (b2i ly)])), (bP, .inl (kP, 2, .inl pw))]) [1, 2] rfl
  have hDc := hD.sub (ws' := [(bM, .inr (3, [.int cd, .int wd, .ref bT, .ref bF, .int al, .ref bN, .ref bP, .ref bQ, .ref bR, .int sz1, .int un, .int (b2i mo), .int tl, .int (b2i sp), .int tpo, .long fro, .int (b2i ly)])), (bP, .inl (kP, 2, .inl pw))]) [1, 2] (by decide) rfl
  have hKc := hK.sub (tys' := [(kP, .int)]) [0] rfl
  have hFc := va_free (wc := [(bM, .inr (3, [.int cd, .int wd, .ref bT, .ref bF, .int al, .ref bN, .ref bP, .ref bQ, .ref bR, .int sz1, .int un, .int (b2i mo), .int tl, .int (b2i sp), .int tpo, .long fro, .int (b2i ly)])), (bP, .inl (kP, 2, .inl pw))]) hD hS hA [1, 2] rfl
  refine cc_i (va_runV (As := [.int 1]) (rest := [.int (g_M_unitOf pw 0)]) ⟨hx, hb, hml, hown, htA⟩ (c_M_unitOf l dC dI kP bM bP bT bF bN bQ bR H.size cd wd al sz1 un mo tl sp tpo fro ly pw 1 in2_1) (cwV 1 htA (gi_V k_308 k_309 k_310 k_263 (gi_code k_262)) rfl rfl rfl (by decide +kernel) ⟨Nat.le_of_ble_eq_true rfl, Nat.le_of_ble_eq_true rfl⟩) (pre_V hnw hPc hKc hDc (ci := 3) (q0 := 0) rfl rfl) rfl rfl hl.1 rfl (lv_room (Nat.le_of_ble_eq_true rfl)) d_M_isLess_7 ⟨Nat.le_of_ble_eq_true rfl, Nat.le_of_ble_eq_true rfl⟩) hS hFc hP hD [1, 2] [0] (wr := [(bQ, .inl (kQ, 2, .inr (.inl pt)))]) rfl rfl (by decide) (by decide) (fun H locs hP hD hS => ?_)
  have hP : va_P (dC, dI) classes [(bQ, .inl (kQ, 2, .inr (.inl pt))), (bM, .inr (3, [.int cd, .int wd, .ref bT, .ref bF, .int al, .ref bN, .ref bP, .ref bQ, .ref bR, .int sz1, .int un, .int (b2i mo), .int tl, .int (b2i sp), .int tpo, .long fro, .int (b2i ly)])), (bP, .inl (kP, 2, .inl pw))] H := hP
  have hD : va_D A [(bQ, .inl (kQ, 2, .inr (.inl pt))), (bM, .inr (3, [.int cd, .int wd, .ref bT, .ref bF, .int al, .ref bN, .ref bP, .ref bQ, .ref bR, .int sz1, .int un, .int (b2i mo), .int tl, .int (b2i sp), .int tpo, .long fro, .int (b2i ly)])), (bP, .inl (kP, 2, .inl pw))] := hD
  refine cut_join (X := Int32) 0 0 (fun (x : Int32) (H : Heap) (locs : List Loc) (ls : Array Slot) => (if (g_M_unitOf pw 1) ≤ (g_M_unitOf pw 0) then (g_M_unitOf pw 1) else (g_M_unitOf pw 0)) = x ∧ va_P (dC, dI) classes [(bQ, .inl (kQ, 2, .inr (.inl pt))), (bM, .inr (3, [.int cd, .int wd, .ref bT, .ref bF, .int al, .ref bN, .ref bP, .ref bQ, .ref bR, .int sz1, .int un, .int (b2i mo), .int tl, .int (b2i sp), .int tpo, .long fro, .int (b2i ly)])), (bP, .inl (kP, 2, .inl pw))] H ∧ va_D A [(bQ, .inl (kQ, 2, .inr (.inl pt))), (bM, .inr (3, [.int cd, .int wd, .ref bT, .ref bF, .int al, .ref bN, .ref bP, .ref bQ, .ref bR, .int sz1, .int un, .int (b2i mo), .int tl, .int (b2i sp), .int tpo, .long fro, .int (b2i ly)])), (bP, .inl (kP, 2, .inl pw))] ∧ va_S A s.heap H locs ∧ lv_has ls 8 [(0, .ref bM)]) (fun x ls => F0 m 26 ls [.int x]) ?_ (fun J26 => ?_)
  · skip
    rintro j26_0 H locs ls ⟨ej26_0, hP, hD, hS, hl⟩
    have ej26_0 : (if (g_M_unitOf pw 1) ≤ (g_M_unitOf pw 0) then (g_M_unitOf pw 1) else (g_M_unitOf pw 0)) = j26_0 := ej26_0
    have hP : va_P (dC, dI) classes [(bQ, .inl (kQ, 2, .inr (.inl pt))), (bM, .inr (3, [.int cd, .int wd, .ref bT, .ref bF, .int al, .ref bN, .ref bP, .ref bQ, .ref bR, .int sz1, .int un, .int (b2i mo), .int tl, .int (b2i sp), .int tpo, .long fro, .int (b2i ly)])), (bP, .inl (kP, 2, .inl pw))] H := hP
    have hD : va_D A [(bQ, .inl (kQ, 2, .inr (.inl pt))), (bM, .inr (3, [.int cd, .int wd, .ref bT, .ref bF, .int al, .ref bN, .ref bP, .ref bQ, .ref bR, .int sz1, .int un, .int (b2i mo), .int tl, .int (b2i sp), .int tpo, .long fro, .int (b2i ly)])), (bP, .inl (kP, 2, .inl pw))] := hD
    have hl : lv_has ls 8 [(0, .ref bM)] := hl
    refine lv_istore_n (lv' := [(1, .int j26_0), (0, .ref bM)]) hx hb d_M_isLess_26 rfl hl (by decide) rfl (fun ls hl => ?_)
    refine lv_aload_n hx hb d_M_isLess_27 rfl (lv_at hl 1 rfl) ?_
    refine lv_iconst (v := 0) hx hb d_M_isLess_28 (by decide) ?_
    have hPc := hP.sub (ws' := [(bM, .inr (3, [.int cd, .int wd, .ref bT, .ref bF, .int al, .ref bN, .ref bP, .ref bQ, .ref bR, .int sz1, .int un, .int (b2i mo), .int tl, .int (b2i sp), .int tpo, .long fro, .int (b2i ly)])), (bP, .inl (kP, 2, .inl pw))]) [1, 2] rfl
    have hDc := hD.sub (ws' := [(bM, .inr (3, [.int cd, .int wd, .ref bT, .ref bF, .int al, .ref bN, .ref bP, .ref bQ, .ref bR, .int sz1, .int un, .int (b2i mo), .int tl, .int (b2i sp), .int tpo, .long fro, .int (b2i ly)])), (bP, .inl (kP, 2, .inl pw))]) [1, 2] (by decide) rfl
    have hKc := hK.sub (tys' := [(kP, .int)]) [0] rfl
    have hFc := va_free (wc := [(bM, .inr (3, [.int cd, .int wd, .ref bT, .ref bF, .int al, .ref bN, .ref bP, .ref bQ, .ref bR, .int sz1, .int un, .int (b2i mo), .int tl, .int (b2i sp), .int tpo, .long fro, .int (b2i ly)])), (bP, .inl (kP, 2, .inl pw))]) hD hS hA [1, 2] rfl
    refine cc_i (va_runV (As := [.int 0]) (rest := []) ⟨hx, hb, hml, hown, htA⟩ (c_M_unitOf l dC dI kP bM bP bT bF bN bQ bR H.size cd wd al sz1 un mo tl sp tpo fro ly pw 0 in2_0) (cwV 1 htA (gi_V k_308 k_309 k_310 k_263 (gi_code k_262)) rfl rfl rfl (by decide +kernel) ⟨Nat.le_of_ble_eq_true rfl, Nat.le_of_ble_eq_true rfl⟩) (pre_V hnw hPc hKc hDc (ci := 3) (q0 := 0) rfl rfl) rfl rfl hl.1 rfl (lv_room (Nat.le_of_ble_eq_true rfl)) d_M_isLess_29 ⟨Nat.le_of_ble_eq_true rfl, Nat.le_of_ble_eq_true rfl⟩) hS hFc hP hD [1, 2] [0] (wr := [(bQ, .inl (kQ, 2, .inr (.inl pt)))]) rfl rfl (by decide) (by decide) (fun H locs hP hD hS => ?_)
    have hP : va_P (dC, dI) classes [(bQ, .inl (kQ, 2, .inr (.inl pt))), (bM, .inr (3, [.int cd, .int wd, .ref bT, .ref bF, .int al, .ref bN, .ref bP, .ref bQ, .ref bR, .int sz1, .int un, .int (b2i mo), .int tl, .int (b2i sp), .int tpo, .long fro, .int (b2i ly)])), (bP, .inl (kP, 2, .inl pw))] H := hP
    have hD : va_D A [(bQ, .inl (kQ, 2, .inr (.inl pt))), (bM, .inr (3, [.int cd, .int wd, .ref bT, .ref bF, .int al, .ref bN, .ref bP, .ref bQ, .ref bR, .int sz1, .int un, .int (b2i mo), .int tl, .int (b2i sp), .int tpo, .long fro, .int (b2i ly)])), (bP, .inl (kP, 2, .inl pw))] := hD
    refine lv_iload_n hx hb d_M_isLess_32 rfl (lv_at hl 0 rfl) ?_
    refine lv_isub hx hb d_M_isLess_33 ?_
    refine lv_istore_n (lv' := [(2, .int ((g_M_unitOf pw 0) - j26_0)), (1, .int j26_0), (0, .ref bM)]) hx hb d_M_isLess_34 rfl hl (by decide) rfl (fun ls hl => ?_)
    refine lv_aload_n hx hb d_M_isLess_35 rfl (lv_at hl 2 rfl) ?_
    refine lv_iconst (v := 1) hx hb d_M_isLess_36 (by decide) ?_
    have hPc := hP.sub (ws' := [(bM, .inr (3, [.int cd, .int wd, .ref bT, .ref bF, .int al, .ref bN, .ref bP, .ref bQ, .ref bR, .int sz1, .int un, .int (b2i mo), .int tl, .int (b2i sp), .int tpo, .long fro, .int (b2i ly)])), (bP, .inl (kP, 2, .inl pw))]) [1, 2] rfl
    have hDc := hD.sub (ws' := [(bM, .inr (3, [.int cd, .int wd, .ref bT, .ref bF, .int al, .ref bN, .ref bP, .ref bQ, .ref bR, .int sz1, .int un, .int (b2i mo), .int tl, .int (b2i sp), .int tpo, .long fro, .int (b2i ly)])), (bP, .inl (kP, 2, .inl pw))]) [1, 2] (by decide) rfl
    have hKc := hK.sub (tys' := [(kP, .int)]) [0] rfl
    have hFc := va_free (wc := [(bM, .inr (3, [.int cd, .int wd, .ref bT, .ref bF, .int al, .ref bN, .ref bP, .ref bQ, .ref bR, .int sz1, .int un, .int (b2i mo), .int tl, .int (b2i sp), .int tpo, .long fro, .int (b2i ly)])), (bP, .inl (kP, 2, .inl pw))]) hD hS hA [1, 2] rfl
    refine cc_i (va_runV (As := [.int 1]) (rest := []) ⟨hx, hb, hml, hown, htA⟩ (c_M_unitOf l dC dI kP bM bP bT bF bN bQ bR H.size cd wd al sz1 un mo tl sp tpo fro ly pw 1 in2_1) (cwV 1 htA (gi_V k_308 k_309 k_310 k_263 (gi_code k_262)) rfl rfl rfl (by decide +kernel) ⟨Nat.le_of_ble_eq_true rfl, Nat.le_of_ble_eq_true rfl⟩) (pre_V hnw hPc hKc hDc (ci := 3) (q0 := 0) rfl rfl) rfl rfl hl.1 rfl (lv_room (Nat.le_of_ble_eq_true rfl)) d_M_isLess_37 ⟨Nat.le_of_ble_eq_true rfl, Nat.le_of_ble_eq_true rfl⟩) hS hFc hP hD [1, 2] [0] (wr := [(bQ, .inl (kQ, 2, .inr (.inl pt)))]) rfl rfl (by decide) (by decide) (fun H locs hP hD hS => ?_)
    have hP : va_P (dC, dI) classes [(bQ, .inl (kQ, 2, .inr (.inl pt))), (bM, .inr (3, [.int cd, .int wd, .ref bT, .ref bF, .int al, .ref bN, .ref bP, .ref bQ, .ref bR, .int sz1, .int un, .int (b2i mo), .int tl, .int (b2i sp), .int tpo, .long fro, .int (b2i ly)])), (bP, .inl (kP, 2, .inl pw))] H := hP
    have hD : va_D A [(bQ, .inl (kQ, 2, .inr (.inl pt))), (bM, .inr (3, [.int cd, .int wd, .ref bT, .ref bF, .int al, .ref bN, .ref bP, .ref bQ, .ref bR, .int sz1, .int un, .int (b2i mo), .int tl, .int (b2i sp), .int tpo, .long fro, .int (b2i ly)])), (bP, .inl (kP, 2, .inl pw))] := hD
    refine lv_iload_n hx hb d_M_isLess_40 rfl (lv_at hl 1 rfl) ?_
    refine lv_isub hx hb d_M_isLess_41 ?_
    refine lv_istore_n (lv' := [(3, .int ((g_M_unitOf pw 1) - j26_0)), (2, .int ((g_M_unitOf pw 0) - j26_0)), (1, .int j26_0), (0, .ref bM)]) hx hb d_M_isLess_42 rfl hl (by decide) rfl (fun ls hl => ?_)
    refine lv_iconst (v := 0) hx hb d_M_isLess_43 (by decide) ?_
    refine lv_istore (lv' := [(4, .int 0), (3, .int ((g_M_unitOf pw 1) - j26_0)), (2, .int ((g_M_unitOf pw 0) - j26_0)), (1, .int j26_0), (0, .ref bM)]) hx hb d_M_isLess_44 hl (by decide) rfl (fun ls hl => ?_)
    refine lv_iconst (v := 0) hx hb d_M_isLess_46 (by decide) ?_
    refine lv_istore (lv' := [(5, .int 0), (4, .int 0), (3, .int ((g_M_unitOf pw 1) - j26_0)), (2, .int ((g_M_unitOf pw 0) - j26_0)), (1, .int j26_0), (0, .ref bM)]) hx hb d_M_isLess_47 hl (by decide) rfl (fun ls hl => ?_)
    refine loop_cut (S := Bool × Int32) (nx_M_isLess_49 pw pt j26_0) 33000 (false, 0) (M_isLess_end pw pt j26_0 hpw ej26_0.symm) 0 0 (fun (x : Bool × Int32) (H : Heap) (locs : List Loc) (ls : Array Slot) => va_P (dC, dI) classes [(bQ, .inl (kQ, 2, .inr (.inl pt))), (bM, .inr (3, [.int cd, .int wd, .ref bT, .ref bF, .int al, .ref bN, .ref bP, .ref bQ, .ref bR, .int sz1, .int un, .int (b2i mo), .int tl, .int (b2i sp), .int tpo, .long fro, .int (b2i ly)])), (bP, .inl (kP, 2, .inl pw))] H ∧ va_D A [(bQ, .inl (kQ, 2, .inr (.inl pt))), (bM, .inr (3, [.int cd, .int wd, .ref bT, .ref bF, .int al, .ref bN, .ref bP, .ref bQ, .ref bR, .int sz1, .int un, .int (b2i mo), .int tl, .int (b2i sp), .int tpo, .long fro, .int (b2i ly)])), (bP, .inl (kP, 2, .inl pw))] ∧ va_S A s.heap H locs ∧ lv_has ls 8 [(0, .ref bM), (1, .int j26_0), (2, .int ((g_M_unitOf pw 0) - j26_0)), (3, .int ((g_M_unitOf pw 1) - j26_0)), (4, .int (b2i x.1)), (5, .int x.2)]) (fun x ls => F0 m 49 ls []) (fun x ls => F0 m 169 ls []) ?_ ?_ H locs ls ⟨hP.sub [0, 1, 2] rfl, hD.sub [0, 1, 2] (by decide) rfl, hS, lv_sub hl [5, 4, 3, 2, 1, 0] rfl⟩
    · skip
      rintro ⟨v49_0, v49_1⟩ hex hbk H locs ls ⟨hP, hD, hS, hl⟩
      have hP : va_P (dC, dI) classes [(bQ, .inl (kQ, 2, .inr (.inl pt))), (bM, .inr (3, [.int cd, .int wd, .ref bT, .ref bF, .int al, .ref bN, .ref bP, .ref bQ, .ref bR, .int sz1, .int un, .int (b2i mo), .int tl, .int (b2i sp), .int tpo, .long fro, .int (b2i ly)])), (bP, .inl (kP, 2, .inl pw))] H := hP
      have hD : va_D A [(bQ, .inl (kQ, 2, .inr (.inl pt))), (bM, .inr (3, [.int cd, .int wd, .ref bT, .ref bF, .int al, .ref bN, .ref bP, .ref bQ, .ref bR, .int sz1, .int un, .int (b2i mo), .int tl, .int (b2i sp), .int tpo, .long fro, .int (b2i ly)])), (bP, .inl (kP, 2, .inl pw))] := hD
      have hl : lv_has ls 8 [(0, .ref bM), (1, .int j26_0), (2, .int ((g_M_unitOf pw 0) - j26_0)), (3, .int ((g_M_unitOf pw 1) - j26_0)), (4, .int (b2i v49_0)), (5, .int v49_1)] := hl
      refine lv_iload hx hb d_M_isLess_49 (lv_at hl 5 rfl) ?_
      refine lv_iload_n hx hb d_M_isLess_51 rfl (lv_at hl 2 rfl) ?_
      refine lv_iload_n hx hb d_M_isLess_52 rfl (lv_at hl 3 rfl) ?_
      refine cut_join (X := Int32) 0 0 (fun (x : Int32) (H : Heap) (locs : List Loc) (ls : Array Slot) => (if ((g_M_unitOf pw 1) - j26_0) ≤ ((g_M_unitOf pw 0) - j26_0) then ((g_M_unitOf pw 0) - j26_0) else ((g_M_unitOf pw 1) - j26_0)) = x ∧ va_P (dC, dI) classes [(bQ, .inl (kQ, 2, .inr (.inl pt))), (bM, .inr (3, [.int cd, .int wd, .ref bT, .ref bF, .int al, .ref bN, .ref bP, .ref bQ, .ref bR, .int sz1, .int un, .int (b2i mo), .int tl, .int (b2i sp), .int tpo, .long fro, .int (b2i ly)])), (bP, .inl (kP, 2, .inl pw))] H ∧ va_D A [(bQ, .inl (kQ, 2, .inr (.inl pt))), (bM, .inr (3, [.int cd, .int wd, .ref bT, .ref bF, .int al, .ref bN, .ref bP, .ref bQ, .ref bR, .int sz1, .int un, .int (b2i mo), .int tl, .int (b2i sp), .int tpo, .long fro, .int (b2i ly)])), (bP, .inl (kP, 2, .inl pw))] ∧ va_S A s.heap H locs ∧ lv_has ls 8 [(0, .ref bM), (1, .int j26_0), (2, .int ((g_M_unitOf pw 0) - j26_0)), (3, .int ((g_M_unitOf pw 1) - j26_0)), (4, .int (b2i v49_0)), (5, .int v49_1)]) (fun x ls => F0 m 61 ls [.int x, .int v49_1]) ?_ (fun J61 => ?_)
      · skip
        rintro j61_0 H locs ls ⟨ej61_0, hP, hD, hS, hl⟩
        have ej61_0 : (if ((g_M_unitOf pw 1) - j26_0) ≤ ((g_M_unitOf pw 0) - j26_0) then ((g_M_unitOf pw 0) - j26_0) else ((g_M_unitOf pw 1) - j26_0)) = j61_0 := ej61_0
        have hP : va_P (dC, dI) classes [(bQ, .inl (kQ, 2, .inr (.inl pt))), (bM, .inr (3, [.int cd, .int wd, .ref bT, .ref bF, .int al, .ref bN, .ref bP, .ref bQ, .ref bR, .int sz1, .int un, .int (b2i mo), .int tl, .int (b2i sp), .int tpo, .long fro, .int (b2i ly)])), (bP, .inl (kP, 2, .inl pw))] H := hP
        have hD : va_D A [(bQ, .inl (kQ, 2, .inr (.inl pt))), (bM, .inr (3, [.int cd, .int wd, .ref bT, .ref bF, .int al, .ref bN, .ref bP, .ref bQ, .ref bR, .int sz1, .int un, .int (b2i mo), .int tl, .int (b2i sp), .int tpo, .long fro, .int (b2i ly)])), (bP, .inl (kP, 2, .inl pw))] := hD
        have hl : lv_has ls 8 [(0, .ref bM), (1, .int j26_0), (2, .int ((g_M_unitOf pw 0) - j26_0)), (3, .int ((g_M_unitOf pw 1) - j26_0)), (4, .int (b2i v49_0)), (5, .int v49_1)] := hl
        refine lv_bipush (v := 64) hx hb d_M_isLess_61 (by decide) ?_
        refine lv_iadd hx hb d_M_isLess_63 ?_
        refine lv_icmp_ge (tgt := 169) hx hb d_M_isLess_64 (by decide) (fun c_64 => ?_) (fun c_64 => ?_)
        · skip
          exact hex (by clear hP hD hl hS; subst ej61_0; unfold nx_M_isLess_49; (try dsimp only); rw [if_pos c_64]) H locs ls ⟨hP.sub [0, 1, 2] rfl, hD.sub [0, 1, 2] (by decide) rfl, hS, lv_sub hl [0, 1, 2, 3, 4, 5] rfl⟩
        · skip
          refine lv_iload hx hb d_M_isLess_67 (lv_at hl 5 rfl) ?_
          refine lv_iload_n hx hb d_M_isLess_69 rfl (lv_at hl 2 rfl) ?_
          refine cut_join (X := Bool) 0 0 (fun (x : Bool) (H : Heap) (locs : List Loc) (ls : Array Slot) => (if v49_1 < ((g_M_unitOf pw 0) - j26_0) then false else if 64 ≤ (v49_1 - ((g_M_unitOf pw 0) - j26_0)) then false else if ((aR (pt (0 : Int32).toNatClampNeg) (v49_1 - ((g_M_unitOf pw 0) - j26_0))) &&& 1) = 1 then true else false) = x ∧ va_P (dC, dI) classes [(bQ, .inl (kQ, 2, .inr (.inl pt))), (bM, .inr (3, [.int cd, .int wd, .ref bT, .ref bF, .int al, .ref bN, .ref bP, .ref bQ, .ref bR, .int sz1, .int un, .int (b2i mo), .int tl, .int (b2i sp), .int tpo, .long fro, .int (b2i ly)])), (bP, .inl (kP, 2, .inl pw))] H ∧ va_D A [(bQ, .inl (kQ, 2, .inr (.inl pt))), (bM, .inr (3, [.int cd, .int wd, .ref bT, .ref bF, .int al, .ref bN, .ref bP, .ref bQ, .ref bR, .int sz1, .int un, .int (b2i mo), .int tl, .int (b2i sp), .int tpo, .long fro, .int (b2i ly)])), (bP, .inl (kP, 2, .inl pw))] ∧ va_S A s.heap H locs ∧ lv_has ls 8 [(0, .ref bM), (1, .int j26_0), (2, .int ((g_M_unitOf pw 0) - j26_0)), (3, .int ((g_M_unitOf pw 1) - j26_0)), (4, .int (b2i v49_0)), (5, .int v49_1)]) (fun x ls => F0 m 105 ls [.int (b2i x)]) ?_ (fun J105 => ?_)
          · skip
            rintro j105_0 H locs ls ⟨ej105_0, hP, hD, hS, hl⟩
            have ej105_0 : (if v49_1 < ((g_M_unitOf pw 0) - j26_0) then false else if 64 ≤ (v49_1 - ((g_M_unitOf pw 0) - j26_0)) then false else if ((aR (pt (0 : Int32).toNatClampNeg) (v49_1 - ((g_M_unitOf pw 0) - j26_0))) &&& 1) = 1 then true else false) = j105_0 := ej105_0
            have hP : va_P (dC, dI) classes [(bQ, .inl (kQ, 2, .inr (.inl pt))), (bM, .inr (3, [.int cd, .int wd, .ref bT, .ref bF, .int al, .ref bN, .ref bP, .ref bQ, .ref bR, .int sz1, .int un, .int (b2i mo), .int tl, .int (b2i sp), .int tpo, .long fro, .int (b2i ly)])), (bP, .inl (kP, 2, .inl pw))] H := hP
            have hD : va_D A [(bQ, .inl (kQ, 2, .inr (.inl pt))), (bM, .inr (3, [.int cd, .int wd, .ref bT, .ref bF, .int al, .ref bN, .ref bP, .ref bQ, .ref bR, .int sz1, .int un, .int (b2i mo), .int tl, .int (b2i sp), .int tpo, .long fro, .int (b2i ly)])), (bP, .inl (kP, 2, .inl pw))] := hD
            have hl : lv_has ls 8 [(0, .ref bM), (1, .int j26_0), (2, .int ((g_M_unitOf pw 0) - j26_0)), (3, .int ((g_M_unitOf pw 1) - j26_0)), (4, .int (b2i v49_0)), (5, .int v49_1)] := hl
            refine lv_istore (lv' := [(6, .int (b2i j105_0)), (0, .ref bM), (1, .int j26_0), (2, .int ((g_M_unitOf pw 0) - j26_0)), (3, .int ((g_M_unitOf pw 1) - j26_0)), (4, .int (b2i v49_0)), (5, .int v49_1)]) hx hb d_M_isLess_105 hl (by decide) rfl (fun ls hl => ?_)
            refine lv_iload hx hb d_M_isLess_107 (lv_at hl 6 rfl) ?_
            refine lv_iload_n hx hb d_M_isLess_109 rfl (lv_at hl 4 rfl) ?_
            refine cut_join (X := Bool) 0 0 (fun (x : Bool) (H : Heap) (locs : List Loc) (ls : Array Slot) => (if v49_1 < ((g_M_unitOf pw 1) - j26_0) then false else if 64 ≤ (v49_1 - ((g_M_unitOf pw 1) - j26_0)) then false else if ((aR (pt (1 : Int32).toNatClampNeg) (v49_1 - ((g_M_unitOf pw 1) - j26_0))) &&& 1) = 1 then true else false) = x ∧ va_P (dC, dI) classes [(bQ, .inl (kQ, 2, .inr (.inl pt))), (bM, .inr (3, [.int cd, .int wd, .ref bT, .ref bF, .int al, .ref bN, .ref bP, .ref bQ, .ref bR, .int sz1, .int un, .int (b2i mo), .int tl, .int (b2i sp), .int tpo, .long fro, .int (b2i ly)])), (bP, .inl (kP, 2, .inl pw))] H ∧ va_D A [(bQ, .inl (kQ, 2, .inr (.inl pt))), (bM, .inr (3, [.int cd, .int wd, .ref bT, .ref bF, .int al, .ref bN, .ref bP, .ref bQ, .ref bR, .int sz1, .int un, .int (b2i mo), .int tl, .int (b2i sp), .int tpo, .long fro, .int (b2i ly)])), (bP, .inl (kP, 2, .inl pw))] ∧ va_S A s.heap H locs ∧ lv_has ls 8 [(0, .ref bM), (1, .int j26_0), (2, .int ((g_M_unitOf pw 0) - j26_0)), (3, .int ((g_M_unitOf pw 1) - j26_0)), (4, .int (b2i v49_0)), (5, .int v49_1), (6, .int (b2i j105_0))]) (fun x ls => F0 m 145 ls [.int (b2i x)]) ?_ (fun J145 => ?_)
            · skip
              rintro j145_0 H locs ls ⟨ej145_0, hP, hD, hS, hl⟩
              have ej145_0 : (if v49_1 < ((g_M_unitOf pw 1) - j26_0) then false else if 64 ≤ (v49_1 - ((g_M_unitOf pw 1) - j26_0)) then false else if ((aR (pt (1 : Int32).toNatClampNeg) (v49_1 - ((g_M_unitOf pw 1) - j26_0))) &&& 1) = 1 then true else false) = j145_0 := ej145_0
              have hP : va_P (dC, dI) classes [(bQ, .inl (kQ, 2, .inr (.inl pt))), (bM, .inr (3, [.int cd, .int wd, .ref bT, .ref bF, .int al, .ref bN, .ref bP, .ref bQ, .ref bR, .int sz1, .int un, .int (b2i mo), .int tl, .int (b2i sp), .int tpo, .long fro, .int (b2i ly)])), (bP, .inl (kP, 2, .inl pw))] H := hP
              have hD : va_D A [(bQ, .inl (kQ, 2, .inr (.inl pt))), (bM, .inr (3, [.int cd, .int wd, .ref bT, .ref bF, .int al, .ref bN, .ref bP, .ref bQ, .ref bR, .int sz1, .int un, .int (b2i mo), .int tl, .int (b2i sp), .int tpo, .long fro, .int (b2i ly)])), (bP, .inl (kP, 2, .inl pw))] := hD
              have hl : lv_has ls 8 [(0, .ref bM), (1, .int j26_0), (2, .int ((g_M_unitOf pw 0) - j26_0)), (3, .int ((g_M_unitOf pw 1) - j26_0)), (4, .int (b2i v49_0)), (5, .int v49_1), (6, .int (b2i j105_0))] := hl
              refine lv_istore (lv' := [(7, .int (b2i j145_0)), (0, .ref bM), (1, .int j26_0), (2, .int ((g_M_unitOf pw 0) - j26_0)), (3, .int ((g_M_unitOf pw 1) - j26_0)), (4, .int (b2i v49_0)), (5, .int v49_1), (6, .int (b2i j105_0))]) hx hb d_M_isLess_145 hl (by decide) rfl (fun ls hl => ?_)
              refine lv_iload hx hb d_M_isLess_147 (lv_at hl 7 rfl) ?_
              refine lv_iload hx hb d_M_isLess_149 (lv_at hl 0 rfl) ?_
              refine cut_join (X := Bool) 0 0 (fun (x : Bool) (H : Heap) (locs : List Loc) (ls : Array Slot) => (if j105_0 = j145_0 then v49_0 else j145_0) = x ∧ va_P (dC, dI) classes [(bQ, .inl (kQ, 2, .inr (.inl pt))), (bM, .inr (3, [.int cd, .int wd, .ref bT, .ref bF, .int al, .ref bN, .ref bP, .ref bQ, .ref bR, .int sz1, .int un, .int (b2i mo), .int tl, .int (b2i sp), .int tpo, .long fro, .int (b2i ly)])), (bP, .inl (kP, 2, .inl pw))] H ∧ va_D A [(bQ, .inl (kQ, 2, .inr (.inl pt))), (bM, .inr (3, [.int cd, .int wd, .ref bT, .ref bF, .int al, .ref bN, .ref bP, .ref bQ, .ref bR, .int sz1, .int un, .int (b2i mo), .int tl, .int (b2i sp), .int tpo, .long fro, .int (b2i ly)])), (bP, .inl (kP, 2, .inl pw))] ∧ va_S A s.heap H locs ∧ lv_has ls 8 [(0, .ref bM), (1, .int j26_0), (2, .int ((g_M_unitOf pw 0) - j26_0)), (3, .int ((g_M_unitOf pw 1) - j26_0)), (4, .int (b2i v49_0)), (5, .int v49_1), (6, .int (b2i j105_0)), (7, .int (b2i j145_0))]) (fun x ls => F0 m 161 ls [.int (b2i x)]) ?_ (fun J161 => ?_)
              · skip
                rintro j161_0 H locs ls ⟨ej161_0, hP, hD, hS, hl⟩
                have ej161_0 : (if j105_0 = j145_0 then v49_0 else j145_0) = j161_0 := ej161_0
                have hP : va_P (dC, dI) classes [(bQ, .inl (kQ, 2, .inr (.inl pt))), (bM, .inr (3, [.int cd, .int wd, .ref bT, .ref bF, .int al, .ref bN, .ref bP, .ref bQ, .ref bR, .int sz1, .int un, .int (b2i mo), .int tl, .int (b2i sp), .int tpo, .long fro, .int (b2i ly)])), (bP, .inl (kP, 2, .inl pw))] H := hP
                have hD : va_D A [(bQ, .inl (kQ, 2, .inr (.inl pt))), (bM, .inr (3, [.int cd, .int wd, .ref bT, .ref bF, .int al, .ref bN, .ref bP, .ref bQ, .ref bR, .int sz1, .int un, .int (b2i mo), .int tl, .int (b2i sp), .int tpo, .long fro, .int (b2i ly)])), (bP, .inl (kP, 2, .inl pw))] := hD
                have hl : lv_has ls 8 [(0, .ref bM), (1, .int j26_0), (2, .int ((g_M_unitOf pw 0) - j26_0)), (3, .int ((g_M_unitOf pw 1) - j26_0)), (4, .int (b2i v49_0)), (5, .int v49_1), (6, .int (b2i j105_0)), (7, .int (b2i j145_0))] := hl
                refine lv_istore (lv' := [(4, .int (b2i j161_0)), (0, .ref bM), (1, .int j26_0), (2, .int ((g_M_unitOf pw 0) - j26_0)), (3, .int ((g_M_unitOf pw 1) - j26_0)), (5, .int v49_1), (6, .int (b2i j105_0)), (7, .int (b2i j145_0))]) hx hb d_M_isLess_161 hl (by decide) rfl (fun ls hl => ?_)
                refine lv_iinc (v := (v49_1 + 1)) (lv' := [(5, .int (v49_1 + 1)), (4, .int (b2i j161_0)), (0, .ref bM), (1, .int j26_0), (2, .int ((g_M_unitOf pw 0) - j26_0)), (3, .int ((g_M_unitOf pw 1) - j26_0)), (6, .int (b2i j105_0)), (7, .int (b2i j145_0))]) hx hb d_M_isLess_163 hl (k := 5) rfl rfl (by decide) rfl (fun ls hl => ?_)
                refine lv_goto (tgt := 49) hx hb d_M_isLess_166 (by decide) ?_
                exact hbk (j161_0, (v49_1 + 1)) (by clear hP hD hl hS; subst ej161_0; subst ej145_0; subst ej105_0; subst ej61_0; unfold nx_M_isLess_49; (try dsimp only); rw [if_neg c_64]) H locs ls ⟨hP.sub [0, 1, 2] rfl, hD.sub [0, 1, 2] (by decide) rfl, hS, lv_sub hl [2, 3, 4, 5, 1, 0] rfl⟩
              · skip
                refine lv_icmp_ne (tgt := 159) hx hb d_M_isLess_151 (by decide) (fun c_151 => ?_) (fun c_151 => ?_)
                · skip
                  have c_151 : ¬ j105_0 = j145_0 := fun h9 => c_151 (by rw [h9])
                  refine lv_iload hx hb d_M_isLess_159 (lv_at hl 0 rfl) ?_
                  exact J161 (j145_0) H locs ls ⟨by clear hP hD hl hS; (try dsimp only); rw [if_neg c_151], hP.sub [0, 1, 2] rfl, hD.sub [0, 1, 2] (by decide) rfl, hS, lv_sub hl [1, 2, 3, 4, 5, 6, 7, 0] rfl⟩
                · skip
                  have c_151 : j105_0 = j145_0 := b2i_inj c_151
                  refine lv_iload hx hb d_M_isLess_154 (lv_at hl 5 rfl) ?_
                  refine lv_goto (tgt := 161) hx hb d_M_isLess_156 (by decide) ?_
                  exact J161 (v49_0) H locs ls ⟨by clear hP hD hl hS; (try dsimp only); rw [if_pos c_151], hP.sub [0, 1, 2] rfl, hD.sub [0, 1, 2] (by decide) rfl, hS, lv_sub hl [1, 2, 3, 4, 5, 6, 7, 0] rfl⟩
            · skip
              refine lv_icmp_lt (tgt := 144) hx hb d_M_isLess_110 (by decide) (fun c_110 => ?_) (fun c_110 => ?_)
              · skip
                refine lv_iconst (v := 0) hx hb d_M_isLess_144 (by decide) ?_
                exact J145 (false) H locs ls ⟨by clear hP hD hl hS; (try dsimp only); rw [if_pos c_110], hP.sub [0, 1, 2] rfl, hD.sub [0, 1, 2] (by decide) rfl, hS, lv_sub hl [1, 2, 3, 4, 5, 6, 0] rfl⟩
              · skip
                refine lv_iload hx hb d_M_isLess_113 (lv_at hl 6 rfl) ?_
                refine lv_iload_n hx hb d_M_isLess_115 rfl (lv_at hl 4 rfl) ?_
                refine lv_isub hx hb d_M_isLess_116 ?_
                refine lv_bipush (v := 64) hx hb d_M_isLess_117 (by decide) ?_
                refine lv_icmp_ge (tgt := 144) hx hb d_M_isLess_119 (by decide) (fun c_119 => ?_) (fun c_119 => ?_)
                · skip
                  refine lv_iconst (v := 0) hx hb d_M_isLess_144 (by decide) ?_
                  exact J145 (false) H locs ls ⟨by clear hP hD hl hS; (try dsimp only); rw [if_neg c_110, if_pos c_119], hP.sub [0, 1, 2] rfl, hD.sub [0, 1, 2] (by decide) rfl, hS, lv_sub hl [1, 2, 3, 4, 5, 6, 0] rfl⟩
                · skip
                  refine lv_aload_n hx hb d_M_isLess_122 rfl (lv_at hl 1 rfl) ?_
                  refine va_get (D := (dC, dI)) (ci := 3) (v := .ref bQ) (C := R_M) (T := F_M) (N := 17) hx hb htA in_M hown hK hP 1 rfl rfl 7 (by decide) (htA _ k_256) (fun _ h9 => h9) rfl d_M_isLess_123 ?_
                  refine lv_iconst (v := 1) hx hb d_M_isLess_126 (by decide) ?_
                  refine va_lald hx hb hK hP 0 1 rfl rfl in2_1 d_M_isLess_127 ?_
                  refine lv_iload hx hb d_M_isLess_128 (lv_at hl 6 rfl) ?_
                  refine lv_iload_n hx hb d_M_isLess_130 rfl (lv_at hl 4 rfl) ?_
                  refine lv_isub hx hb d_M_isLess_131 ?_
                  refine lv_lshr (v := (aR (pt (1 : Int32).toNatClampNeg) (v49_1 - ((g_M_unitOf pw 1) - j26_0)))) hx hb d_M_isLess_132 rfl ?_
                  refine lv_lconst (v := 1) hx hb d_M_isLess_133 (by decide) ?_
                  refine lv_land hx hb d_M_isLess_134 ?_
                  refine lv_lconst (v := 1) hx hb d_M_isLess_135 (by decide) ?_
                  refine W.lcmp hx hb d_M_isLess_136 ?_
                  refine lv_if_ne (tgt := 144) hx hb d_M_isLess_137 (by decide) (fun c_137 => ?_) (fun c_137 => ?_)
                  · skip
                    have c_137 : ¬ ((aR (pt (1 : Int32).toNatClampNeg) (v49_1 - ((g_M_unitOf pw 1) - j26_0))) &&& 1) = 1 := fun h9 => c_137 ((lg_cmp_eq _ _).mpr h9)
                    refine lv_iconst (v := 0) hx hb d_M_isLess_144 (by decide) ?_
                    exact J145 (false) H locs ls ⟨by clear hP hD hl hS; (try dsimp only); rw [if_neg c_110, if_neg c_119, if_neg c_137], hP.sub [0, 1, 2] rfl, hD.sub [0, 1, 2] (by decide) rfl, hS, lv_sub hl [1, 2, 3, 4, 5, 6, 0] rfl⟩
                  · skip
                    have c_137 : ((aR (pt (1 : Int32).toNatClampNeg) (v49_1 - ((g_M_unitOf pw 1) - j26_0))) &&& 1) = 1 := (lg_cmp_eq _ _).mp c_137
                    refine lv_iconst (v := 1) hx hb d_M_isLess_140 (by decide) ?_
                    refine lv_goto (tgt := 145) hx hb d_M_isLess_141 (by decide) ?_
                    exact J145 (true) H locs ls ⟨by clear hP hD hl hS; (try dsimp only); rw [if_neg c_110, if_neg c_119, if_pos c_137], hP.sub [0, 1, 2] rfl, hD.sub [0, 1, 2] (by decide) rfl, hS, lv_sub hl [1, 2, 3, 4, 5, 6, 0] rfl⟩
          · skip
            refine lv_icmp_lt (tgt := 104) hx hb d_M_isLess_70 (by decide) (fun c_70 => ?_) (fun c_70 => ?_)
            · skip
              refine lv_iconst (v := 0) hx hb d_M_isLess_104 (by decide) ?_
              exact J105 (false) H locs ls ⟨by clear hP hD hl hS; (try dsimp only); rw [if_pos c_70], hP.sub [0, 1, 2] rfl, hD.sub [0, 1, 2] (by decide) rfl, hS, lv_sub hl [0, 1, 2, 3, 4, 5] rfl⟩
            · skip
              refine lv_iload hx hb d_M_isLess_73 (lv_at hl 5 rfl) ?_
              refine lv_iload_n hx hb d_M_isLess_75 rfl (lv_at hl 2 rfl) ?_
              refine lv_isub hx hb d_M_isLess_76 ?_
              refine lv_bipush (v := 64) hx hb d_M_isLess_77 (by decide) ?_
              refine lv_icmp_ge (tgt := 104) hx hb d_M_isLess_79 (by decide) (fun c_79 => ?_) (fun c_79 => ?_)
              · skip
                refine lv_iconst (v := 0) hx hb d_M_isLess_104 (by decide) ?_
                exact J105 (false) H locs ls ⟨by clear hP hD hl hS; (try dsimp only); rw [if_neg c_70, if_pos c_79], hP.sub [0, 1, 2] rfl, hD.sub [0, 1, 2] (by decide) rfl, hS, lv_sub hl [0, 1, 2, 3, 4, 5] rfl⟩
              · skip
                refine lv_aload_n hx hb d_M_isLess_82 rfl (lv_at hl 0 rfl) ?_
                refine va_get (D := (dC, dI)) (ci := 3) (v := .ref bQ) (C := R_M) (T := F_M) (N := 17) hx hb htA in_M hown hK hP 1 rfl rfl 7 (by decide) (htA _ k_256) (fun _ h9 => h9) rfl d_M_isLess_83 ?_
                refine lv_iconst (v := 0) hx hb d_M_isLess_86 (by decide) ?_
                refine va_lald hx hb hK hP 0 1 rfl rfl in2_0 d_M_isLess_87 ?_
                refine lv_iload hx hb d_M_isLess_88 (lv_at hl 5 rfl) ?_
                refine lv_iload_n hx hb d_M_isLess_90 rfl (lv_at hl 2 rfl) ?_
                refine lv_isub hx hb d_M_isLess_91 ?_
                refine lv_lshr (v := (aR (pt (0 : Int32).toNatClampNeg) (v49_1 - ((g_M_unitOf pw 0) - j26_0)))) hx hb d_M_isLess_92 rfl ?_
                refine lv_lconst (v := 1) hx hb d_M_isLess_93 (by decide) ?_
                refine lv_land hx hb d_M_isLess_94 ?_
                refine lv_lconst (v := 1) hx hb d_M_isLess_95 (by decide) ?_
                refine W.lcmp hx hb d_M_isLess_96 ?_
                refine lv_if_ne (tgt := 104) hx hb d_M_isLess_97 (by decide) (fun c_97 => ?_) (fun c_97 => ?_)
                · skip
                  have c_97 : ¬ ((aR (pt (0 : Int32).toNatClampNeg) (v49_1 - ((g_M_unitOf pw 0) - j26_0))) &&& 1) = 1 := fun h9 => c_97 ((lg_cmp_eq _ _).mpr h9)
                  refine lv_iconst (v := 0) hx hb d_M_isLess_104 (by decide) ?_
                  exact J105 (false) H locs ls ⟨by clear hP hD hl hS; (try dsimp only); rw [if_neg c_70, if_neg c_79, if_neg c_97], hP.sub [0, 1, 2] rfl, hD.sub [0, 1, 2] (by decide) rfl, hS, lv_sub hl [0, 1, 2, 3, 4, 5] rfl⟩
                · skip
                  have c_97 : ((aR (pt (0 : Int32).toNatClampNeg) (v49_1 - ((g_M_unitOf pw 0) - j26_0))) &&& 1) = 1 := (lg_cmp_eq _ _).mp c_97
                  refine lv_iconst (v := 1) hx hb d_M_isLess_100 (by decide) ?_
                  refine lv_goto (tgt := 105) hx hb d_M_isLess_101 (by decide) ?_
                  exact J105 (true) H locs ls ⟨by clear hP hD hl hS; (try dsimp only); rw [if_neg c_70, if_neg c_79, if_pos c_97], hP.sub [0, 1, 2] rfl, hD.sub [0, 1, 2] (by decide) rfl, hS, lv_sub hl [0, 1, 2, 3, 4, 5] rfl⟩
      · skip
        refine lv_icmp_ge (tgt := 60) hx hb d_M_isLess_53 (by decide) (fun c_53 => ?_) (fun c_53 => ?_)
        · skip
          refine lv_iload_n hx hb d_M_isLess_60 rfl (lv_at hl 2 rfl) ?_
          exact J61 (((g_M_unitOf pw 0) - j26_0)) H locs ls ⟨by clear hP hD hl hS; (try dsimp only); rw [if_pos c_53], hP.sub [0, 1, 2] rfl, hD.sub [0, 1, 2] (by decide) rfl, hS, lv_sub hl [0, 1, 2, 3, 4, 5] rfl⟩
        · skip
          refine lv_iload_n hx hb d_M_isLess_56 rfl (lv_at hl 3 rfl) ?_
          refine lv_goto (tgt := 61) hx hb d_M_isLess_57 (by decide) ?_
          exact J61 (((g_M_unitOf pw 1) - j26_0)) H locs ls ⟨by clear hP hD hl hS; (try dsimp only); rw [if_neg c_53], hP.sub [0, 1, 2] rfl, hD.sub [0, 1, 2] (by decide) rfl, hS, lv_sub hl [0, 1, 2, 3, 4, 5] rfl⟩
    · skip
      rintro ⟨v49_0, v49_1⟩ H locs ls ev ⟨hP, hD, hS, hl⟩
      have ev49_0 : (lrun (nx_M_isLess_49 pw pt j26_0) 33000 (false, 0)).1 = v49_0 := by rw [← ev]
      have ev49_1 : (lrun (nx_M_isLess_49 pw pt j26_0) 33000 (false, 0)).2 = v49_1 := by rw [← ev]
      clear ev
      have hP : va_P (dC, dI) classes [(bQ, .inl (kQ, 2, .inr (.inl pt))), (bM, .inr (3, [.int cd, .int wd, .ref bT, .ref bF, .int al, .ref bN, .ref bP, .ref bQ, .ref bR, .int sz1, .int un, .int (b2i mo), .int tl, .int (b2i sp), .int tpo, .long fro, .int (b2i ly)])), (bP, .inl (kP, 2, .inl pw))] H := hP
      have hD : va_D A [(bQ, .inl (kQ, 2, .inr (.inl pt))), (bM, .inr (3, [.int cd, .int wd, .ref bT, .ref bF, .int al, .ref bN, .ref bP, .ref bQ, .ref bR, .int sz1, .int un, .int (b2i mo), .int tl, .int (b2i sp), .int tpo, .long fro, .int (b2i ly)])), (bP, .inl (kP, 2, .inl pw))] := hD
      have hl : lv_has ls 8 [(0, .ref bM), (1, .int j26_0), (2, .int ((g_M_unitOf pw 0) - j26_0)), (3, .int ((g_M_unitOf pw 1) - j26_0)), (4, .int (b2i v49_0)), (5, .int v49_1)] := hl
      refine lv_iload hx hb d_M_isLess_169 (lv_at hl 4 rfl) ?_
      have hE : g_M_isLess pw pt = (v49_0) := by clear hP hD hl hS; subst ev49_1; subst ev49_0; subst ej26_0; unfold g_M_isLess; rfl
      have hP9 : va_P (dC, dI) classes [(bM, .inr (3, [.int cd, .int wd, .ref bT, .ref bF, .int al, .ref bN, .ref bP, .ref bQ, .ref bR, .int sz1, .int un, .int (b2i mo), .int tl, .int (b2i sp), .int tpo, .long fro, .int (b2i ly)])), (bP, .inl (kP, 2, .inl pw)), (bQ, .inl (kQ, 2, .inr (.inl pt)))] H := by exact hP.sub [1, 2, 0] rfl
      have hD9 : va_D A [(bM, .inr (3, [.int cd, .int wd, .ref bT, .ref bF, .int al, .ref bN, .ref bP, .ref bQ, .ref bR, .int sz1, .int un, .int (b2i mo), .int tl, .int (b2i sp), .int tpo, .long fro, .int (b2i ly)])), (bP, .inl (kP, 2, .inl pw)), (bQ, .inl (kQ, 2, .inr (.inl pt)))] := by exact hD.sub [1, 2, 0] (by decide) rfl
      exact W.zret (v := (b2i v49_0)) hx hb hr (by first | exact nar_b2i _ | rfl) (fun t ht hW => ⟨⟨(b2i v49_0), (), rfl, by rw [hE], by rw [ht]; exact hP9, hD9⟩, hS.F ht⟩) hS.2.2 d_M_isLess_171
  · skip
    refine lv_icmp_ge (tgt := 21) hx hb d_M_isLess_10 (by decide) (fun c_10 => ?_) (fun c_10 => ?_)
    · skip
      refine lv_aload_n hx hb d_M_isLess_21 rfl (lv_at hl 0 rfl) ?_
      refine lv_iconst (v := 1) hx hb d_M_isLess_22 (by decide) ?_
      have hPc := hP.sub (ws' := [(bM, .inr (3, [.int cd, .int wd, .ref bT, .ref bF, .int al, .ref bN, .ref bP, .ref bQ, .ref bR, .int sz1, .int un, .int (b2i mo), .int tl, .int (b2i sp), .int tpo, .long fro, .int (b2i ly)])), (bP, .inl (kP, 2, .inl pw))]) [1, 2] rfl
      have hDc := hD.sub (ws' := [(bM, .inr (3, [.int cd, .int wd, .ref bT, .ref bF, .int al, .ref bN, .ref bP, .ref bQ, .ref bR, .int sz1, .int un, .int (b2i mo), .int tl, .int (b2i sp), .int tpo, .long fro, .int (b2i ly)])), (bP, .inl (kP, 2, .inl pw))]) [1, 2] (by decide) rfl
      have hKc := hK.sub (tys' := [(kP, .int)]) [0] rfl
      have hFc := va_free (wc := [(bM, .inr (3, [.int cd, .int wd, .ref bT, .ref bF, .int al, .ref bN, .ref bP, .ref bQ, .ref bR, .int sz1, .int un, .int (b2i mo), .int tl, .int (b2i sp), .int tpo, .long fro, .int (b2i ly)])), (bP, .inl (kP, 2, .inl pw))]) hD hS hA [1, 2] rfl
      refine cc_i (va_runV (As := [.int 1]) (rest := []) ⟨hx, hb, hml, hown, htA⟩ (c_M_unitOf l dC dI kP bM bP bT bF bN bQ bR H.size cd wd al sz1 un mo tl sp tpo fro ly pw 1 in2_1) (cwV 1 htA (gi_V k_308 k_309 k_310 k_263 (gi_code k_262)) rfl rfl rfl (by decide +kernel) ⟨Nat.le_of_ble_eq_true rfl, Nat.le_of_ble_eq_true rfl⟩) (pre_V hnw hPc hKc hDc (ci := 3) (q0 := 0) rfl rfl) rfl rfl hl.1 rfl (lv_room (Nat.le_of_ble_eq_true rfl)) d_M_isLess_23 ⟨Nat.le_of_ble_eq_true rfl, Nat.le_of_ble_eq_true rfl⟩) hS hFc hP hD [1, 2] [0] (wr := [(bQ, .inl (kQ, 2, .inr (.inl pt)))]) rfl rfl (by decide) (by decide) (fun H locs hP hD hS => ?_)
      have hP : va_P (dC, dI) classes [(bQ, .inl (kQ, 2, .inr (.inl pt))), (bM, .inr (3, [.int cd, .int wd, .ref bT, .ref bF, .int al, .ref bN, .ref bP, .ref bQ, .ref bR, .int sz1, .int un, .int (b2i mo), .int tl, .int (b2i sp), .int tpo, .long fro, .int (b2i ly)])), (bP, .inl (kP, 2, .inl pw))] H := hP
      have hD : va_D A [(bQ, .inl (kQ, 2, .inr (.inl pt))), (bM, .inr (3, [.int cd, .int wd, .ref bT, .ref bF, .int al, .ref bN, .ref bP, .ref bQ, .ref bR, .int sz1, .int un, .int (b2i mo), .int tl, .int (b2i sp), .int tpo, .long fro, .int (b2i ly)])), (bP, .inl (kP, 2, .inl pw))] := hD
      exact J26 ((g_M_unitOf pw 1)) H locs ls ⟨by clear hP hD hl hS; (try dsimp only); rw [if_pos c_10], hP.sub [0, 1, 2] rfl, hD.sub [0, 1, 2] (by decide) rfl, hS, lv_sub hl [0] rfl⟩
    · skip
      refine lv_aload_n hx hb d_M_isLess_13 rfl (lv_at hl 0 rfl) ?_
      refine lv_iconst (v := 0) hx hb d_M_isLess_14 (by decide) ?_
      have hPc := hP.sub (ws' := [(bM, .inr (3, [.int cd, .int wd, .ref bT, .ref bF, .int al, .ref bN, .ref bP, .ref bQ, .ref bR, .int sz1, .int un, .int (b2i mo), .int tl, .int (b2i sp), .int tpo, .long fro, .int (b2i ly)])), (bP, .inl (kP, 2, .inl pw))]) [1, 2] rfl
      have hDc := hD.sub (ws' := [(bM, .inr (3, [.int cd, .int wd, .ref bT, .ref bF, .int al, .ref bN, .ref bP, .ref bQ, .ref bR, .int sz1, .int un, .int (b2i mo), .int tl, .int (b2i sp), .int tpo, .long fro, .int (b2i ly)])), (bP, .inl (kP, 2, .inl pw))]) [1, 2] (by decide) rfl
      have hKc := hK.sub (tys' := [(kP, .int)]) [0] rfl
      have hFc := va_free (wc := [(bM, .inr (3, [.int cd, .int wd, .ref bT, .ref bF, .int al, .ref bN, .ref bP, .ref bQ, .ref bR, .int sz1, .int un, .int (b2i mo), .int tl, .int (b2i sp), .int tpo, .long fro, .int (b2i ly)])), (bP, .inl (kP, 2, .inl pw))]) hD hS hA [1, 2] rfl
      refine cc_i (va_runV (As := [.int 0]) (rest := []) ⟨hx, hb, hml, hown, htA⟩ (c_M_unitOf l dC dI kP bM bP bT bF bN bQ bR H.size cd wd al sz1 un mo tl sp tpo fro ly pw 0 in2_0) (cwV 1 htA (gi_V k_308 k_309 k_310 k_263 (gi_code k_262)) rfl rfl rfl (by decide +kernel) ⟨Nat.le_of_ble_eq_true rfl, Nat.le_of_ble_eq_true rfl⟩) (pre_V hnw hPc hKc hDc (ci := 3) (q0 := 0) rfl rfl) rfl rfl hl.1 rfl (lv_room (Nat.le_of_ble_eq_true rfl)) d_M_isLess_15 ⟨Nat.le_of_ble_eq_true rfl, Nat.le_of_ble_eq_true rfl⟩) hS hFc hP hD [1, 2] [0] (wr := [(bQ, .inl (kQ, 2, .inr (.inl pt)))]) rfl rfl (by decide) (by decide) (fun H locs hP hD hS => ?_)
      have hP : va_P (dC, dI) classes [(bQ, .inl (kQ, 2, .inr (.inl pt))), (bM, .inr (3, [.int cd, .int wd, .ref bT, .ref bF, .int al, .ref bN, .ref bP, .ref bQ, .ref bR, .int sz1, .int un, .int (b2i mo), .int tl, .int (b2i sp), .int tpo, .long fro, .int (b2i ly)])), (bP, .inl (kP, 2, .inl pw))] H := hP
      have hD : va_D A [(bQ, .inl (kQ, 2, .inr (.inl pt))), (bM, .inr (3, [.int cd, .int wd, .ref bT, .ref bF, .int al, .ref bN, .ref bP, .ref bQ, .ref bR, .int sz1, .int un, .int (b2i mo), .int tl, .int (b2i sp), .int tpo, .long fro, .int (b2i ly)])), (bP, .inl (kP, 2, .inl pw))] := hD
      refine lv_goto (tgt := 26) hx hb d_M_isLess_18 (by decide) ?_
      exact J26 ((g_M_unitOf pw 0)) H locs ls ⟨by clear hP hD hl hS; (try dsimp only); rw [if_neg c_10], hP.sub [0, 1, 2] rfl, hD.sub [0, 1, 2] (by decide) rfl, hS, lv_sub hl [0] rfl⟩
