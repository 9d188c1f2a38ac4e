theorem d_M_take_0 : decode b_M_take 0 = .ok (.aload_n 0, 1) := by decide +kernel
theorem d_M_take_1 : decode b_M_take 1 = .ok (.getfield 21, 3) := by decide +kernel
theorem d_M_take_4 : decode b_M_take 4 = .ok (.iload_n 1, 1) := by decide +kernel
theorem d_M_take_5 : decode b_M_take 5 = .ok (.aload_n 0, 1) := by decide +kernel
theorem d_M_take_6 : decode b_M_take 6 = .ok (.getfield 13, 3) := by decide +kernel
theorem d_M_take_9 : decode b_M_take 9 = .ok (.iload_n 2, 1) := by decide +kernel
theorem d_M_take_10 : decode b_M_take 10 = .ok (.iaload, 1) := by decide +kernel
theorem d_M_take_11 : decode b_M_take 11 = .ok (.sipush 32767, 3) := by decide +kernel
theorem d_M_take_14 : decode b_M_take 14 = .ok (.if_icmp .le 7, 3) := by decide +kernel
theorem d_M_take_21 : decode b_M_take 21 = .ok (.iconst 0, 1) := by decide +kernel
theorem d_M_take_17 : decode b_M_take 17 = .ok (.iconst 1, 1) := by decide +kernel
theorem d_M_take_18 : decode b_M_take 18 = .ok (.goto 4, 3) := by decide +kernel
theorem d_M_take_22 : decode b_M_take 22 = .ok (.bastore, 1) := by decide +kernel
theorem d_M_take_23 : decode b_M_take 23 = .ok (.aload_n 0, 1) := by decide +kernel
theorem d_M_take_24 : decode b_M_take 24 = .ok (.getfield 25, 3) := by decide +kernel
theorem d_M_take_27 : decode b_M_take 27 = .ok (.iload_n 1, 1) := by decide +kernel
theorem d_M_take_28 : decode b_M_take 28 = .ok (.aload_n 0, 1) := by decide +kernel
theorem d_M_take_29 : decode b_M_take 29 = .ok (.getfield 13, 3) := by decide +kernel
theorem d_M_take_32 : decode b_M_take 32 = .ok (.iload_n 2, 1) := by decide +kernel
theorem d_M_take_33 : decode b_M_take 33 = .ok (.iaload, 1) := by decide +kernel
theorem d_M_take_34 : decode b_M_take 34 = .ok (.ldc 55, 2) := by decide +kernel
theorem d_M_take_36 : decode b_M_take 36 = .ok (.irem, 1) := by decide +kernel
theorem d_M_take_37 : decode b_M_take 37 = .ok (.iastore, 1) := by decide +kernel
theorem d_M_take_38 : decode b_M_take 38 = .ok (.aload_n 0, 1) := by decide +kernel
theorem d_M_take_39 : decode b_M_take 39 = .ok (.getfield 28, 3) := by decide +kernel
theorem d_M_take_42 : decode b_M_take 42 = .ok (.iload_n 1, 1) := by decide +kernel
theorem d_M_take_43 : decode b_M_take 43 = .ok (.aload_n 0, 1) := by decide +kernel
theorem d_M_take_44 : decode b_M_take 44 = .ok (.getfield 17, 3) := by decide +kernel
theorem d_M_take_47 : decode b_M_take 47 = .ok (.iload_n 2, 1) := by decide +kernel
theorem d_M_take_48 : decode b_M_take 48 = .ok (.laload, 1) := by decide +kernel
theorem d_M_take_49 : decode b_M_take 49 = .ok (.lastore, 1) := by decide +kernel
theorem d_M_take_50 : decode b_M_take 50 = .ok (.return_, 1) := by decide +kernel
set_option maxHeartbeats 4000000 in
set_option maxRecDepth 100000 in
theorem c_M_take (l : Launch) (dC : Nat → ClassId) (dI : Nat → Nat → Nat) (kT : ClassId) (kF : ClassId) (kN : ClassId) (kP : ClassId) (kQ : ClassId) (bM : Nat) (bT : Nat) (bF : Nat) (bN : Nat) (bP : Nat) (bQ : Nat) (bR : Nat) (sz : Nat) (cd : Int32) (wd : Int32) (al : Int32) (sz1 : Int32) (un : Int32) (mo : Bool) (tl : Int32) (sp : Bool) (tpo : Int32) (fro : Int64) (ly : Bool) (mT : Nat → Int32) (mF : Nat → Int64) (mi : Nat → Bool) (pw : Nat → Int32) (pt : Nat → Int64) (ii : Int32) (ir : Int32) (hi2 : vp_in ii 2) (hr8 : vp_in ir 8) : Met l y_M_take w_M_take ({ frames := 0, cells := 0, slots := 0, locals := 0 }) (cPc (dC, dI) [(kT, .int), (kF, .long), (kN, .boolean), (kP, .int), (kQ, .long)] [.ref bM, .int ii, .int ir] [(bM, .inr (3, [.int cd, .int wd, .ref bT, .ref bF, .int al, .ref bN, .ref bP, .ref bQ, .ref bR, .int sz1, .int un, .int (b2i mo), .int tl, .int (b2i sp), .int tpo, .long fro, .int (b2i ly)])), (bT, .inl (kT, 8, .inl mT)), (bF, .inl (kF, 8, .inr (.inl mF))), (bN, .inl (kN, 2, .inl (fun k => b2i (mi k)))), (bP, .inl (kP, 2, .inl pw)), (bQ, .inl (kQ, 2, .inr (.inl pt)))] sz) (va_Qv (fun (_ : Unit) => True) (fun _ t => va_P (dC, dI) classes [(bM, .inr (3, [.int cd, .int wd, .ref bT, .ref bF, .int al, .ref bN, .ref bP, .ref bQ, .ref bR, .int sz1, .int un, .int (b2i mo), .int tl, .int (b2i sp), .int tpo, .long fro, .int (b2i ly)])), (bT, .inl (kT, 8, .inl mT)), (bF, .inl (kF, 8, .inr (.inl mF))), (bN, .inl (kN, 2, .inl (fun k => b2i (((g_M_take mT mF mi pw pt ii ir).1) k)))), (bP, .inl (kP, 2, .inl ((g_M_take mT mF mi pw pt ii ir).2.1))), (bQ, .inl (kQ, 2, .inr (.inl ((g_M_take mT mF mi pw pt ii ir).2.2))))] t.heap ∧ va_D (va_A [(bM, .inr (3, [.int cd, .int wd, .ref bT, .ref bF, .int al, .ref bN, .ref bP, .ref bQ, .ref bR, .int sz1, .int un, .int (b2i mo), .int tl, .int (b2i sp), .int tpo, .long fro, .int (b2i ly)])), (bT, .inl (kT, 8, .inl mT)), (bF, .inl (kF, 8, .inr (.inl mF))), (bN, .inl (kN, 2, .inl (fun k => b2i (mi k)))), (bP, .inl (kP, 2, .inl pw)), (bQ, .inl (kQ, 2, .inr (.inl pt)))] sz) [(bM, .inr (3, [.int cd, .int wd, .ref bT, .ref bF, .int al, .ref bN, .ref bP, .ref bQ, .ref bR, .int sz1, .int un, .int (b2i mo), .int tl, .int (b2i sp), .int tpo, .long fro, .int (b2i ly)])), (bT, .inl (kT, 8, .inl mT)), (bF, .inl (kF, 8, .inr (.inl mF))), (bN, .inl (kN, 2, .inl (fun k => b2i (((g_M_take mT mF mi pw pt ii ir).1) k)))), (bP, .inl (kP, 2, .inl ((g_M_take mT mF mi pw pt ii ir).2.1))), (bQ, .inl (kQ, 2, .inr (.inl ((g_M_take mT mF mi pw pt ii ir).2.2))))]) (va_A [(bM, .inr (3, [.int cd, .int wd, .ref bT, .ref bF, .int al, .ref bN, .ref bP, .ref bQ, .ref bR, .int sz1, .int un, .int (b2i mo), .int tl, .int (b2i sp), .int tpo, .long fro, .int (b2i ly)])), (bT, .inl (kT, 8, .inl mT)), (bF, .inl (kF, 8, .inr (.inl mF))), (bN, .inl (kN, 2, .inl (fun k => b2i (mi k)))), (bP, .inl (kP, 2, .inl pw)), (bQ, .inl (kQ, 2, .inr (.inl pt)))] sz)) 0 0 (va_A [(bM, .inr (3, [.int cd, .int wd, .ref bT, .ref bF, .int al, .ref bN, .ref bP, .ref bQ, .ref bR, .int sz1, .int un, .int (b2i mo), .int tl, .int (b2i sp), .int tpo, .long fro, .int (b2i ly)])), (bT, .inl (kT, 8, .inl mT)), (bF, .inl (kF, 8, .inr (.inl mF))), (bN, .inl (kN, 2, .inl (fun k => b2i (mi k)))), (bP, .inl (kP, 2, .inl pw)), (bQ, .inl (kQ, 2, .inr (.inl pt)))] sz) := by
  refine Met.ofW (cc := b_M_take) (maxL := 3) (ret := none) (by decide) rfl ?_
  intro p e s m args below meth c s₁ B hml hv
  obtain ⟨rfl, hsz, hP, hK, hD0, hnw⟩ := hv
  have hx := B.exec
  have hb := B.bytes
  have hr := B.returns
  have hts := atoms_spec (ws := w_M_take) B.pre
  have htA : ∀ w ∈ wAll, w.before _ s = true := fun w h => hts w (List.mem_cons_of_mem _ h)
  have hown : s.vm.findClass R_M = some m.cls := findClass_of_methodNamed B.named
  have hlocks := B.notSynchronized
  subst hsz
  have hD := hD0.self (sz := s.heap.size)
  generalize hAe : va_A [(bM, .inr (3, [.int cd, .int wd, .ref bT, .ref bF, .int al, .ref bN, .ref bP, .ref bQ, .ref bR, .int sz1, .int un, .int (b2i mo), .int tl, .int (b2i sp), .int tpo, .long fro, .int (b2i ly)])), (bT, .inl (kT, 8, .inl mT)), (bF, .inl (kF, 8, .inr (.inl mF))), (bN, .inl (kN, 2, .inl (fun k => b2i (mi k)))), (bP, .inl (kP, 2, .inl pw)), (bQ, .inl (kQ, 2, .inr (.inl pt)))] s.heap.size = A at hD ⊢
  have hA : ∀ q : Nat, s.heap.size ≤ q → A q := fun q h => by rw [← hAe]; exact Or.inr h
  have hS : va_S A s.heap s.heap [] := va_S.rf
  have hP : va_P (dC, dI) classes [(bM, .inr (3, [.int cd, .int wd, .ref bT, .ref bF, .int al, .ref bN, .ref bP, .ref bQ, .ref bR, .int sz1, .int un, .int (b2i mo), .int tl, .int (b2i sp), .int tpo, .long fro, .int (b2i ly)])), (bT, .inl (kT, 8, .inl mT)), (bF, .inl (kF, 8, .inr (.inl mF))), (bN, .inl (kN, 2, .inl (fun k => b2i (mi k)))), (bP, .inl (kP, 2, .inl pw)), (bQ, .inl (kQ, 2, .inr (.inl pt)))] s.heap := hP
  obtain ⟨H, eH⟩ : ∃ z, z = s.heap := ⟨_, rfl⟩
  rw [← eH] at hP
  have hS : va_S A s.heap H [] := by rw [eH]; exact hS
  rw [← eH]
  generalize ([] : List Loc) = locs at hS ⊢
  have hl := lv_entry ([.ref bM, .int ii, .int ir]) (n := 3) (Nat.le_of_ble_eq_true rfl)
  rw [lg_entry_eq]
  generalize (lg_sl ([.ref bM, .int ii, .int ir]) ++ List.replicate (3 - (lg_sl ([.ref bM, .int ii, .int ir])).length) Slot.unset).toArray = ls at hl ⊢
  have hl : lv_has ls 3 [(0, .ref bM), (1, .int ii), (2, .int ir)] := hl
  refine lv_aload_n hx hb d_M_take_0 rfl (lv_at hl 0 rfl) ?_
  refine va_get (D := (dC, dI)) (ci := 3) (v := .ref bN) (C := R_M) (T := F_M) (N := 17) hx hb htA in_M hown hK hP 0 rfl rfl 5 (by decide) (htA _ k_312) (fun _ h9 => h9) rfl d_M_take_1 ?_
  refine lv_iload_n hx hb d_M_take_4 rfl (lv_at hl 1 rfl) ?_
  refine lv_aload_n hx hb d_M_take_5 rfl (lv_at hl 0 rfl) ?_
  refine va_get (D := (dC, dI)) (ci := 3) (v := .ref bT) (C := R_M) (T := F_M) (N := 17) hx hb htA in_M hown hK hP 0 rfl rfl 2 (by decide) (htA _ k_266) (fun _ h9 => h9) rfl d_M_take_6 ?_
  refine lv_iload_n hx hb d_M_take_9 rfl (lv_at hl 2 rfl) ?_
  refine va_iald hx hb hK hP 1 0 rfl rfl hr8 d_M_take_10 ?_
  refine lv_sipush (v := 32767) hx hb d_M_take_11 (by decide) ?_
  refine cut_join (X := Bool) 0 0 (fun (x : Bool) (H : Heap) (locs : List Loc) (ls : Array Slot) => (if (mT ir.toNatClampNeg) ≤ 32767 then false else true) = x ∧ va_P (dC, dI) classes [(bM, .inr (3, [.int cd, .int wd, .ref bT, .ref bF, .int al, .ref bN, .ref bP, .ref bQ, .ref bR, .int sz1, .int un, .int (b2i mo), .int tl, .int (b2i sp), .int tpo, .long fro, .int (b2i ly)])), (bT, .inl (kT, 8, .inl mT)), (bF, .inl (kF, 8, .inr (.inl mF))), (bN, .inl (kN, 2, .inl (fun k => b2i (mi k)))), (bP, .inl (kP, 2, .inl pw)), (bQ, .inl (kQ, 2, .inr (.inl pt)))] H ∧ va_D A [(bM, .inr (3, [.int cd, .int wd, .ref bT, .ref bF, .int al, .ref bN, .ref bP, .ref bQ, .ref bR, .int sz1, .int un, .int (b2i mo), .int tl, .int (b2i sp), .int tpo, .long fro, .int (b2i ly)])), (bT, .inl (kT, 8, .inl mT)), (bF, .inl (kF, 8, .inr (.inl mF))), (bN, .inl (kN, 2, .inl (fun k => b2i (mi k)))), (bP, .inl (kP, 2, .inl pw)), (bQ, .inl (kQ, 2, .inr (.inl pt)))] ∧ va_S A s.heap H locs ∧ lv_has ls 3 [(0, .ref bM), (1, .int ii), (2, .int ir)]) (fun x ls => F0 m 22 ls [.int (b2i x), .int ii, .ref bN]) ?_ (fun J22 => ?_)
  · skip
    rintro j22_0 H locs ls ⟨ej22_0, hP, hD, hS, hl⟩
    have ej22_0 : (if (mT ir.toNatClampNeg) ≤ 32767 then false else true) = j22_0 := ej22_0
    have hP : va_P (dC, dI) classes [(bM, .inr (3, [.int cd, .int wd, .ref bT, .ref bF, .int al, .ref bN, .ref bP, .ref bQ, .ref bR, .int sz1, .int un, .int (b2i mo), .int tl, .int (b2i sp), .int tpo, .long fro, .int (b2i ly)])), (bT, .inl (kT, 8, .inl mT)), (bF, .inl (kF, 8, .inr (.inl mF))), (bN, .inl (kN, 2, .inl (fun k => b2i (mi k)))), (bP, .inl (kP, 2, .inl pw)), (bQ, .inl (kQ, 2, .inr (.inl pt)))] H := hP
    have hD : va_D A [(bM, .inr (3, [.int cd, .int wd, .ref bT, .ref bF, .int al, .ref bN, .ref bP, .ref bQ, .ref bR, .int sz1, .int un, .int (b2i mo), .int tl, .int (b2i sp), .int tpo, .long fro, .int (b2i ly)])), (bT, .inl (kT, 8, .inl mT)), (bF, .inl (kF, 8, .inr (.inl mF))), (bN, .inl (kN, 2, .inl (fun k => b2i (mi k)))), (bP, .inl (kP, 2, .inl pw)), (bQ, .inl (kQ, 2, .inr (.inl pt)))] := hD
    have hl : lv_has ls 3 [(0, .ref bM), (1, .int ii), (2, .int ir)] := hl
    refine va_zast (x := b2i j22_0) hx hb hK hP hD hS 3 2 rfl rfl hi2 d_M_take_22 (fun H locs hP hD hS => ?_)
    rw [upd_b2i] at hP hD
    have hP : va_P (dC, dI) classes [(bM, .inr (3, [.int cd, .int wd, .ref bT, .ref bF, .int al, .ref bN, .ref bP, .ref bQ, .ref bR, .int sz1, .int un, .int (b2i mo), .int tl, .int (b2i sp), .int tpo, .long fro, .int (b2i ly)])), (bT, .inl (kT, 8, .inl mT)), (bF, .inl (kF, 8, .inr (.inl mF))), (bN, .inl (kN, 2, .inl (fun k => b2i ((updB mi ii.toNatClampNeg j22_0) k)))), (bP, .inl (kP, 2, .inl pw)), (bQ, .inl (kQ, 2, .inr (.inl pt)))] H := hP
    have hD : va_D A [(bM, .inr (3, [.int cd, .int wd, .ref bT, .ref bF, .int al, .ref bN, .ref bP, .ref bQ, .ref bR, .int sz1, .int un, .int (b2i mo), .int tl, .int (b2i sp), .int tpo, .long fro, .int (b2i ly)])), (bT, .inl (kT, 8, .inl mT)), (bF, .inl (kF, 8, .inr (.inl mF))), (bN, .inl (kN, 2, .inl (fun k => b2i ((updB mi ii.toNatClampNeg j22_0) k)))), (bP, .inl (kP, 2, .inl pw)), (bQ, .inl (kQ, 2, .inr (.inl pt)))] := hD
    refine lv_aload_n hx hb d_M_take_23 rfl (lv_at hl 0 rfl) ?_
    refine va_get (D := (dC, dI)) (ci := 3) (v := .ref bP) (C := R_M) (T := F_M) (N := 17) hx hb htA in_M hown hK hP 0 rfl rfl 6 (by decide) (htA _ k_255) (fun _ h9 => h9) rfl d_M_take_24 ?_
    refine lv_iload_n hx hb d_M_take_27 rfl (lv_at hl 1 rfl) ?_
    refine lv_aload_n hx hb d_M_take_28 rfl (lv_at hl 0 rfl) ?_
    refine va_get (D := (dC, dI)) (ci := 3) (v := .ref bT) (C := R_M) (T := F_M) (N := 17) hx hb htA in_M hown hK hP 0 rfl rfl 2 (by decide) (htA _ k_266) (fun _ h9 => h9) rfl d_M_take_29 ?_
    refine lv_iload_n hx hb d_M_take_32 rfl (lv_at hl 2 rfl) ?_
    refine va_iald hx hb hK hP 1 0 rfl rfl hr8 d_M_take_33 ?_
    refine lv_ldc (v := 32768) hx hb hown (htA _ k_251) d_M_take_34 ?_
    refine lv_irem hx hb d_M_take_36 (by decide) ?_
    refine va_iast hx hb hK hP hD hS 4 3 rfl rfl hi2 d_M_take_37 (fun H locs hP hD hS => ?_)
    have hP : va_P (dC, dI) classes [(bM, .inr (3, [.int cd, .int wd, .ref bT, .ref bF, .int al, .ref bN, .ref bP, .ref bQ, .ref bR, .int sz1, .int un, .int (b2i mo), .int tl, .int (b2i sp), .int tpo, .long fro, .int (b2i ly)])), (bT, .inl (kT, 8, .inl mT)), (bF, .inl (kF, 8, .inr (.inl mF))), (bN, .inl (kN, 2, .inl (fun k => b2i ((updB mi ii.toNatClampNeg j22_0) k)))), (bP, .inl (kP, 2, .inl (upd pw ii.toNatClampNeg ((mT ir.toNatClampNeg) - (mT ir.toNatClampNeg) / 32768 * 32768)))), (bQ, .inl (kQ, 2, .inr (.inl pt)))] H := hP
    have hD : va_D A [(bM, .inr (3, [.int cd, .int wd, .ref bT, .ref bF, .int al, .ref bN, .ref bP, .ref bQ, .ref bR, .int sz1, .int un, .int (b2i mo), .int tl, .int (b2i sp), .int tpo, .long fro, .int (b2i ly)])), (bT, .inl (kT, 8, .inl mT)), (bF, .inl (kF, 8, .inr (.inl mF))), (bN, .inl (kN, 2, .inl (fun k => b2i ((updB mi ii.toNatClampNeg j22_0) k)))), (bP, .inl (kP, 2, .inl (upd pw ii.toNatClampNeg ((mT ir.toNatClampNeg) - (mT ir.toNatClampNeg) / 32768 * 32768)))), (bQ, .inl (kQ, 2, .inr (.inl pt)))] := hD
    refine lv_aload_n hx hb d_M_take_38 rfl (lv_at hl 0 rfl) ?_
    refine va_get (D := (dC, dI)) (ci := 3) (v := .ref bQ) (C := R_M) (T := F_M) (N := 17) hx hb htA in_M hown hK hP 0 rfl rfl 7 (by decide) (htA _ k_256) (fun _ h9 => h9) rfl d_M_take_39 ?_
    refine lv_iload_n hx hb d_M_take_42 rfl (lv_at hl 1 rfl) ?_
    refine lv_aload_n hx hb d_M_take_43 rfl (lv_at hl 0 rfl) ?_
    refine va_get (D := (dC, dI)) (ci := 3) (v := .ref bF) (C := R_M) (T := F_M) (N := 17) hx hb htA in_M hown hK hP 0 rfl rfl 3 (by decide) (htA _ k_267) (fun _ h9 => h9) rfl d_M_take_44 ?_
    refine lv_iload_n hx hb d_M_take_47 rfl (lv_at hl 2 rfl) ?_
    refine va_lald hx hb hK hP 2 1 rfl rfl hr8 d_M_take_48 ?_
    refine va_last hx hb hK hP hD hS 5 4 rfl rfl hi2 d_M_take_49 (fun H locs hP hD hS => ?_)
    have hP : va_P (dC, dI) classes [(bM, .inr (3, [.int cd, .int wd, .ref bT, .ref bF, .int al, .ref bN, .ref bP, .ref bQ, .ref bR, .int sz1, .int un, .int (b2i mo), .int tl, .int (b2i sp), .int tpo, .long fro, .int (b2i ly)])), (bT, .inl (kT, 8, .inl mT)), (bF, .inl (kF, 8, .inr (.inl mF))), (bN, .inl (kN, 2, .inl (fun k => b2i ((updB mi ii.toNatClampNeg j22_0) k)))), (bP, .inl (kP, 2, .inl (upd pw ii.toNatClampNeg ((mT ir.toNatClampNeg) - (mT ir.toNatClampNeg) / 32768 * 32768)))), (bQ, .inl (kQ, 2, .inr (.inl (vp_updL pt ii.toNatClampNeg (mF ir.toNatClampNeg)))))] H := hP
    have hD : va_D A [(bM, .inr (3, [.int cd, .int wd, .ref bT, .ref bF, .int al, .ref bN, .ref bP, .ref bQ, .ref bR, .int sz1, .int un, .int (b2i mo), .int tl, .int (b2i sp), .int tpo, .long fro, .int (b2i ly)])), (bT, .inl (kT, 8, .inl mT)), (bF, .inl (kF, 8, .inr (.inl mF))), (bN, .inl (kN, 2, .inl (fun k => b2i ((updB mi ii.toNatClampNeg j22_0) k)))), (bP, .inl (kP, 2, .inl (upd pw ii.toNatClampNeg ((mT ir.toNatClampNeg) - (mT ir.toNatClampNeg) / 32768 * 32768)))), (bQ, .inl (kQ, 2, .inr (.inl (vp_updL pt ii.toNatClampNeg (mF ir.toNatClampNeg)))))] := hD
    have hE : g_M_take mT mF mi pw pt ii ir = ((updB mi ii.toNatClampNeg j22_0), (upd pw ii.toNatClampNeg ((mT ir.toNatClampNeg) - (mT ir.toNatClampNeg) / 32768 * 32768)), (vp_updL pt ii.toNatClampNeg (mF ir.toNatClampNeg))) := by clear hP hD hl hS; subst ej22_0; unfold g_M_take; rfl
    have hP9 : va_P (dC, dI) classes [(bM, .inr (3, [.int cd, .int wd, .ref bT, .ref bF, .int al, .ref bN, .ref bP, .ref bQ, .ref bR, .int sz1, .int un, .int (b2i mo), .int tl, .int (b2i sp), .int tpo, .long fro, .int (b2i ly)])), (bT, .inl (kT, 8, .inl mT)), (bF, .inl (kF, 8, .inr (.inl mF))), (bN, .inl (kN, 2, .inl (fun k => b2i (((g_M_take mT mF mi pw pt ii ir).1) k)))), (bP, .inl (kP, 2, .inl ((g_M_take mT mF mi pw pt ii ir).2.1))), (bQ, .inl (kQ, 2, .inr (.inl ((g_M_take mT mF mi pw pt ii ir).2.2))))] H := by rw [hE]; exact hP.sub [0, 1, 2, 3, 4, 5] rfl
    have hD9 : va_D A [(bM, .inr (3, [.int cd, .int wd, .ref bT, .ref bF, .int al, .ref bN, .ref bP, .ref bQ, .ref bR, .int sz1, .int un, .int (b2i mo), .int tl, .int (b2i sp), .int tpo, .long fro, .int (b2i ly)])), (bT, .inl (kT, 8, .inl mT)), (bF, .inl (kF, 8, .inr (.inl mF))), (bN, .inl (kN, 2, .inl (fun k => b2i (((g_M_take mT mF mi pw pt ii ir).1) k)))), (bP, .inl (kP, 2, .inl ((g_M_take mT mF mi pw pt ii ir).2.1))), (bQ, .inl (kQ, 2, .inr (.inl ((g_M_take mT mF mi pw pt ii ir).2.2))))] := by rw [hE]; exact hD.sub [0, 1, 2, 3, 4, 5] (by decide) rfl
    exact W.vret hx hb hr (fun t ht hW => ⟨⟨(), rfl, trivial, by rw [ht]; exact hP9, hD9⟩, hS.F ht⟩) hS.2.2 d_M_take_50
  · skip
    refine lv_icmp_le (tgt := 21) hx hb d_M_take_14 (by decide) (fun c_14 => ?_) (fun c_14 => ?_)
    · skip
      refine lv_iconst (v := 0) hx hb d_M_take_21 (by decide) ?_
      exact J22 (false) H locs ls ⟨by clear hP hD hl hS; (try dsimp only); rw [if_pos c_14], hP.sub [0, 1, 2, 3, 4, 5] rfl, hD.sub [0, 1, 2, 3, 4, 5] (by decide) rfl, hS, lv_sub hl [0, 1, 2] rfl⟩
    · skip
      refine lv_iconst (v := 1) hx hb d_M_take_17 (by decide) ?_
      refine lv_goto (tgt := 22) hx hb d_M_take_18 (by decide) ?_
      exact J22 (true) H locs ls ⟨by clear hP hD hl hS; (try dsimp only); rw [if_neg c_14], hP.sub [0, 1, 2, 3, 4, 5] rfl, hD.sub [0, 1, 2, 3, 4, 5] (by decide) rfl, hS, lv_sub hl [0, 1, 2] rfl⟩
theorem d_M_noNumber_0 : decode b_M_noNumber 0 = .ok (.aload_n 0, 1) := by decide +kernel
theorem d_M_noNumber_1 : decode b_M_noNumber 1 = .ok (.iconst 0, 1) := by decide +kernel
theorem d_M_noNumber_2 : decode b_M_noNumber 2 = .ok (.invokevirtual 133, 3) := by decide +kernel
theorem d_M_noNumber_5 : decode b_M_noNumber 5 = .ok (.ifCond .ne 7, 3) := by decide +kernel
theorem d_M_noNumber_12 : decode b_M_noNumber 12 = .ok (.iconst 0, 1) := by decide +kernel
theorem d_M_noNumber_8 : decode b_M_noNumber 8 = .ok (.iconst 1, 1) := by decide +kernel
theorem d_M_noNumber_9 : decode b_M_noNumber 9 = .ok (.goto 4, 3) := by decide +kernel
theorem d_M_noNumber_13 : decode b_M_noNumber 13 = .ok (.istore 4, 2) := by decide +kernel
theorem d_M_noNumber_15 : decode b_M_noNumber 15 = .ok (.iload_n 1, 1) := by decide +kernel
theorem d_M_noNumber_16 : decode b_M_noNumber 16 = .ok (.iconst 2, 1) := by decide +kernel
theorem d_M_noNumber_17 : decode b_M_noNumber 17 = .ok (.if_icmp .ne 84, 3) := by decide +kernel
theorem d_M_noNumber_20 : decode b_M_noNumber 20 = .ok (.aload_n 0, 1) := by decide +kernel
theorem d_M_noNumber_21 : decode b_M_noNumber 21 = .ok (.iconst 0, 1) := by decide +kernel
theorem d_M_noNumber_22 : decode b_M_noNumber 22 = .ok (.invokevirtual 133, 3) := by decide +kernel
theorem d_M_noNumber_25 : decode b_M_noNumber 25 = .ok (.ifCond .eq 76, 3) := by decide +kernel
theorem d_M_noNumber_28 : decode b_M_noNumber 28 = .ok (.aload_n 0, 1) := by decide +kernel
theorem d_M_noNumber_29 : decode b_M_noNumber 29 = .ok (.iconst 1, 1) := by decide +kernel
theorem d_M_noNumber_30 : decode b_M_noNumber 30 = .ok (.invokevirtual 133, 3) := by decide +kernel
theorem d_M_noNumber_33 : decode b_M_noNumber 33 = .ok (.ifCond .eq 68, 3) := by decide +kernel
theorem d_M_noNumber_36 : decode b_M_noNumber 36 = .ok (.aload_n 0, 1) := by decide +kernel
theorem d_M_noNumber_37 : decode b_M_noNumber 37 = .ok (.getfield 28, 3) := by decide +kernel
theorem d_M_noNumber_40 : decode b_M_noNumber 40 = .ok (.iconst 0, 1) := by decide +kernel
theorem d_M_noNumber_41 : decode b_M_noNumber 41 = .ok (.laload, 1) := by decide +kernel
theorem d_M_noNumber_42 : decode b_M_noNumber 42 = .ok (.aload_n 0, 1) := by decide +kernel
theorem d_M_noNumber_43 : decode b_M_noNumber 43 = .ok (.getfield 28, 3) := by decide +kernel
theorem d_M_noNumber_46 : decode b_M_noNumber 46 = .ok (.iconst 1, 1) := by decide +kernel
theorem d_M_noNumber_47 : decode b_M_noNumber 47 = .ok (.laload, 1) := by decide +kernel
theorem d_M_noNumber_48 : decode b_M_noNumber 48 = .ok (.lcmp, 1) := by decide +kernel
theorem d_M_noNumber_49 : decode b_M_noNumber 49 = .ok (.ifCond .ne 35, 3) := by decide +kernel
theorem d_M_noNumber_84 : decode b_M_noNumber 84 = .ok (.aload_n 0, 1) := by decide +kernel
theorem d_M_noNumber_85 : decode b_M_noNumber 85 = .ok (.getfield 28, 3) := by decide +kernel
theorem d_M_noNumber_88 : decode b_M_noNumber 88 = .ok (.iconst 0, 1) := by decide +kernel
theorem d_M_noNumber_89 : decode b_M_noNumber 89 = .ok (.laload, 1) := by decide +kernel
theorem d_M_noNumber_90 : decode b_M_noNumber 90 = .ok (.aload_n 0, 1) := by decide +kernel
theorem d_M_noNumber_91 : decode b_M_noNumber 91 = .ok (.getfield 28, 3) := by decide +kernel
theorem d_M_noNumber_94 : decode b_M_noNumber 94 = .ok (.iconst 1, 1) := by decide +kernel
theorem d_M_noNumber_95 : decode b_M_noNumber 95 = .ok (.laload, 1) := by decide +kernel
theorem d_M_noNumber_96 : decode b_M_noNumber 96 = .ok (.invokestatic 129, 3) := by decide +kernel
theorem d_M_noNumber_99 : decode b_M_noNumber 99 = .ok (.istore 4, 2) := by decide +kernel
theorem d_M_noNumber_52 : decode b_M_noNumber 52 = .ok (.aload_n 0, 1) := by decide +kernel
theorem d_M_noNumber_53 : decode b_M_noNumber 53 = .ok (.getfield 13, 3) := by decide +kernel
theorem d_M_noNumber_56 : decode b_M_noNumber 56 = .ok (.iload_n 2, 1) := by decide +kernel
theorem d_M_noNumber_57 : decode b_M_noNumber 57 = .ok (.iaload, 1) := by decide +kernel
theorem d_M_noNumber_58 : decode b_M_noNumber 58 = .ok (.sipush 32767, 3) := by decide +kernel
theorem d_M_noNumber_61 : decode b_M_noNumber 61 = .ok (.if_icmp .le 19, 3) := by decide +kernel
theorem d_M_noNumber_80 : decode b_M_noNumber 80 = .ok (.iconst 0, 1) := by decide +kernel
theorem d_M_noNumber_81 : decode b_M_noNumber 81 = .ok (.goto 18, 3) := by decide +kernel
theorem d_M_noNumber_64 : decode b_M_noNumber 64 = .ok (.aload_n 0, 1) := by decide +kernel
theorem d_M_noNumber_65 : decode b_M_noNumber 65 = .ok (.getfield 13, 3) := by decide +kernel
theorem d_M_noNumber_68 : decode b_M_noNumber 68 = .ok (.iload_n 3, 1) := by decide +kernel
theorem d_M_noNumber_69 : decode b_M_noNumber 69 = .ok (.iaload, 1) := by decide +kernel
theorem d_M_noNumber_70 : decode b_M_noNumber 70 = .ok (.sipush 32767, 3) := by decide +kernel
theorem d_M_noNumber_73 : decode b_M_noNumber 73 = .ok (.if_icmp .gt 7, 3) := by decide +kernel
theorem d_M_noNumber_76 : decode b_M_noNumber 76 = .ok (.iconst 1, 1) := by decide +kernel
theorem d_M_noNumber_77 : decode b_M_noNumber 77 = .ok (.goto 22, 3) := by decide +kernel
theorem d_M_noNumber_101 : decode b_M_noNumber 101 = .ok (.aload_n 0, 1) := by decide +kernel
theorem d_M_noNumber_102 : decode b_M_noNumber 102 = .ok (.iconst 1, 1) := by decide +kernel
theorem d_M_noNumber_103 : decode b_M_noNumber 103 = .ok (.invokevirtual 136, 3) := by decide +kernel
theorem d_M_noNumber_106 : decode b_M_noNumber 106 = .ok (.ifCond .ne 4, 3) := by decide +kernel
theorem d_M_noNumber_110 : decode b_M_noNumber 110 = .ok (.aload_n 0, 1) := by decide +kernel
theorem d_M_noNumber_111 : decode b_M_noNumber 111 = .ok (.iload 4, 2) := by decide +kernel
theorem d_M_noNumber_113 : decode b_M_noNumber 113 = .ok (.ifCond .eq 12, 3) := by decide +kernel
theorem d_M_noNumber_125 : decode b_M_noNumber 125 = .ok (.aload_n 0, 1) := by decide +kernel
theorem d_M_noNumber_126 : decode b_M_noNumber 126 = .ok (.getfield 13, 3) := by decide +kernel
theorem d_M_noNumber_129 : decode b_M_noNumber 129 = .ok (.iload_n 2, 1) := by decide +kernel
theorem d_M_noNumber_130 : decode b_M_noNumber 130 = .ok (.iaload, 1) := by decide +kernel
theorem d_M_noNumber_116 : decode b_M_noNumber 116 = .ok (.aload_n 0, 1) := by decide +kernel
theorem d_M_noNumber_117 : decode b_M_noNumber 117 = .ok (.getfield 13, 3) := by decide +kernel
theorem d_M_noNumber_120 : decode b_M_noNumber 120 = .ok (.iload_n 3, 1) := by decide +kernel
theorem d_M_noNumber_121 : decode b_M_noNumber 121 = .ok (.iaload, 1) := by decide +kernel
theorem d_M_noNumber_122 : decode b_M_noNumber 122 = .ok (.goto 9, 3) := by decide +kernel
theorem d_M_noNumber_131 : decode b_M_noNumber 131 = .ok (.putfield 56, 3) := by decide +kernel
theorem d_M_noNumber_134 : decode b_M_noNumber 134 = .ok (.aload_n 0, 1) := by decide +kernel
theorem d_M_noNumber_135 : decode b_M_noNumber 135 = .ok (.iload 4, 2) := by decide +kernel
theorem d_M_noNumber_137 : decode b_M_noNumber 137 = .ok (.ifCond .eq 12, 3) := by decide +kernel
theorem d_M_noNumber_149 : decode b_M_noNumber 149 = .ok (.aload_n 0, 1) := by decide +kernel
theorem d_M_noNumber_150 : decode b_M_noNumber 150 = .ok (.getfield 17, 3) := by decide +kernel
theorem d_M_noNumber_153 : decode b_M_noNumber 153 = .ok (.iload_n 2, 1) := by decide +kernel
theorem d_M_noNumber_154 : decode b_M_noNumber 154 = .ok (.laload, 1) := by decide +kernel
theorem d_M_noNumber_140 : decode b_M_noNumber 140 = .ok (.aload_n 0, 1) := by decide +kernel
theorem d_M_noNumber_141 : decode b_M_noNumber 141 = .ok (.getfield 17, 3) := by decide +kernel
theorem d_M_noNumber_144 : decode b_M_noNumber 144 = .ok (.iload_n 3, 1) := by decide +kernel
theorem d_M_noNumber_145 : decode b_M_noNumber 145 = .ok (.laload, 1) := by decide +kernel
theorem d_M_noNumber_146 : decode b_M_noNumber 146 = .ok (.goto 9, 3) := by decide +kernel
theorem d_M_noNumber_155 : decode b_M_noNumber 155 = .ok (.putfield 59, 3) := by decide +kernel
theorem d_M_noNumber_158 : decode b_M_noNumber 158 = .ok (.return_, 1) := by decide +kernel
theorem d_M_noNumber_109 : decode b_M_noNumber 109 = .ok (.return_, 1) := by decide +kernel
set_option maxHeartbeats 4000000 in
set_option maxRecDepth 100000 in
theorem c_M_noNumber (l : Launch) (dC : Nat → ClassId) (dI : Nat → Nat → Nat) (kT : ClassId) (kF : ClassId) (kP : ClassId) (kQ : ClassId) (bM : Nat) (bT : Nat) (bF : Nat) (bP : Nat) (bQ : Nat) (bN : Nat) (bR : Nat) (sz : Nat) (cd : Int32) (wd : Int32) (al : Int32) (sz1 : Int32) (un : Int32) (mo : Bool) (tl : Int32) (sp : Bool) (tpo : Int32) (fro : Int64) (ly : Bool) (mT : Nat → Int32) (mF : Nat → Int64) (pw : Nat → Int32) (pt : Nat → Int64) (ict : Int32) (ia : Int32) (ib : Int32) (ha8 : vp_in ia 8) (hb8 : vp_in ib 8) : Met l y_M_noNumber w_M_noNumber ({ frames := 1, cells := 0, slots := 0, locals := 23 }) (cPc (dC, dI) [(kT, .int), (kF, .long), (kP, .int), (kQ, .long)] [.ref bM, .int ict, .int ia, .int ib] [(bM, .inr (3, [.int cd, .int wd, .ref bT, .ref bF, .int al, .ref bN, .ref bP, .ref bQ, .ref bR, .int sz1, .int un, .int (b2i mo), .int tl, .int (b2i sp), .int tpo, .long fro, .int (b2i ly)])), (bT, .inl (kT, 8, .inl mT)), (bF, .inl (kF, 8, .inr (.inl mF))), (bP, .inl (kP, 2, .inl pw)), (bQ, .inl (kQ, 2, .inr (.inl pt)))] sz) (va_Qv (fun (_ : Unit) => True) (fun _ t => va_P (dC, dI) classes [(bM, .inr (3, [.int cd, .int wd, .ref bT, .ref bF, .int al, .ref bN, .ref bP, .ref bQ, .ref bR, .int sz1, .int un, .int (b2i mo), .int ((g_M_noNumber wd tl tpo fro mT mF pw pt ict ia ib).1), .int (b2i ((g_M_noNumber wd tl tpo fro mT mF pw pt ict ia ib).2.1)), .int ((g_M_noNumber wd tl tpo fro mT mF pw pt ict ia ib).2.2.1), .long ((g_M_noNumber wd tl tpo fro mT mF pw pt ict ia ib).2.2.2), .int (b2i ly)])), (bT, .inl (kT, 8, .inl mT)), (bF, .inl (kF, 8, .inr (.inl mF))), (bP, .inl (kP, 2, .inl pw)), (bQ, .inl (kQ, 2, .inr (.inl pt)))] t.heap ∧ va_D (va_A [(bM, .inr (3, [.int cd, .int wd, .ref bT, .ref bF, .int al, .ref bN, .ref bP, .ref bQ, .ref bR, .int sz1, .int un, .int (b2i mo), .int tl, .int (b2i sp), .int tpo, .long fro, .int (b2i ly)])), (bT, .inl (kT, 8, .inl mT)), (bF, .inl (kF, 8, .inr (.inl mF))), (bP, .inl (kP, 2, .inl pw)), (bQ, .inl (kQ, 2, .inr (.inl pt)))] sz) [(bM, .inr (3, [.int cd, .int wd, .ref bT, .ref bF, .int al, .ref bN, .ref bP, .ref bQ, .ref bR, .int sz1, .int un, .int (b2i mo), .int ((g_M_noNumber wd tl tpo fro mT mF pw pt ict ia ib).1), .int (b2i ((g_M_noNumber wd tl tpo fro mT mF pw pt ict ia ib).2.1)), .int ((g_M_noNumber wd tl tpo fro mT mF pw pt ict ia ib).2.2.1), .long ((g_M_noNumber wd tl tpo fro mT mF pw pt ict ia ib).2.2.2), .int (b2i ly)])), (bT, .inl (kT, 8, .inl mT)), (bF, .inl (kF, 8, .inr (.inl mF))), (bP, .inl (kP, 2, .inl pw)), (bQ, .inl (kQ, 2, .inr (.inl pt)))]) (va_A [(bM, .inr (3, [.int cd, .int wd, .ref bT, .ref bF, .int al, .ref bN, .ref bP, .ref bQ, .ref bR, .int sz1, .int un, .int (b2i mo), .int tl, .int (b2i sp), .int tpo, .long fro, .int (b2i ly)])), (bT, .inl (kT, 8, .inl mT)), (bF, .inl (kF, 8, .inr (.inl mF))), (bP, .inl (kP, 2, .inl pw)), (bQ, .inl (kQ, 2, .inr (.inl pt)))] sz)) 0 0 (va_A [(bM, .inr (3, [.int cd, .int wd, .ref bT, .ref bF, .int al, .ref bN, .ref bP, .ref bQ, .ref bR, .int sz1, .int un, .int (b2i mo), .int tl, .int (b2i sp), .int tpo, .long fro, .int (b2i ly)])), (bT, .inl (kT, 8, .inl mT)), (bF, .inl (kF, 8, .inr (.inl mF))), (bP, .inl (kP, 2, .inl pw)), (bQ, .inl (kQ, 2, .inr (.inl pt)))] sz) := by
  refine Met.ofW (cc := b_M_noNumber) (maxL := 5) (ret := none) (by decide) rfl ?_
  intro p e s m args below meth c s₁ B hml hv
  obtain ⟨rfl, hsz, hP, hK, hD0, hnw⟩ := hv
  have hx := B.exec
  have hb := B.bytes
  have hr := B.returns
  have hts := atoms_spec (ws := w_M_noNumber) B.pre
  have htA : ∀ w ∈ wAll, w.before _ s = true := fun w h => hts w (List.mem_cons_of_mem _ h)
  have hown : s.vm.findClass R_M = some m.cls := findClass_of_methodNamed B.named
  have hlocks := B.notSynchronized
  subst hsz
  have hD := hD0.self (sz := s.heap.size)
  generalize hAe : va_A [(bM, .inr (3, [.int cd, .int wd, .ref bT, .ref bF, .int al, .ref bN, .ref bP, .ref bQ, .ref bR, .int sz1, .int un, .int (b2i mo), .int tl, .int (b2i sp), .int tpo, .long fro, .int (b2i ly)])), (bT, .inl (kT, 8, .inl mT)), (bF, .inl (kF, 8, .inr (.inl mF))), (bP, .inl (kP, 2, .inl pw)), (bQ, .inl (kQ, 2, .inr (.inl pt)))] s.heap.size = A at hD ⊢
  have hA : ∀ q : Nat, s.heap.size ≤ q → A q := fun q h => by rw [← hAe]; exact Or.inr h
  have hS : va_S A s.heap s.heap [] := va_S.rf
  have hP : va_P (dC, dI) classes [(bM, .inr (3, [.int cd, .int wd, .ref bT, .ref bF, .int al, .ref bN, .ref bP, .ref bQ, .ref bR, .int sz1, .int un, .int (b2i mo), .int tl, .int (b2i sp), .int tpo, .long fro, .int (b2i ly)])), (bT, .inl (kT, 8, .inl mT)), (bF, .inl (kF, 8, .inr (.inl mF))), (bP, .inl (kP, 2, .inl pw)), (bQ, .inl (kQ, 2, .inr (.inl pt)))] s.heap := hP
  obtain ⟨H, eH⟩ : ∃ z, z = s.heap := ⟨_, rfl⟩
  rw [← eH] at hP
  have hS : va_S A s.heap H [] := by rw [eH]; exact hS
  rw [← eH]
  generalize ([] : List Loc) = locs at hS ⊢
  have hl := lv_entry ([.ref bM, .int ict, .int ia, .int ib]) (n := 5) (Nat.le_of_ble_eq_true rfl)
  rw [lg_entry_eq]
  generalize (lg_sl ([.ref bM, .int ict, .int ia, .int ib]) ++ List.replicate (5 - (lg_sl ([.ref bM, .int ict, .int ia, .int ib])).length) Slot.unset).toArray = ls at hl ⊢
  have hl : lv_has ls 5 [(0, .ref bM), (1, .int ict), (2, .int ia), (3, .int ib)] := hl
  refine lv_aload_n hx hb d_M_noNumber_0 rfl (lv_at hl 0 rfl) ?_
  refine lv_iconst (v := 0) hx hb d_M_noNumber_1 (by decide) ?_
  have hPc := hP.sub (ws' := [(bM, .inr (3, [.int cd, .int wd, .ref bT, .ref bF, .int al, .ref bN, .ref bP, .ref bQ, .ref bR, .int sz1, .int un, .int (b2i mo), .int tl, .int (b2i sp), .int tpo, .long fro, .int (b2i ly)])), (bP, .inl (kP, 2, .inl pw)), (bQ, .inl (kQ, 2, .inr (.inl pt)))]) [0, 3, 4] rfl
  have hDc := hD.sub (ws' := [(bM, .inr (3, [.int cd, .int wd, .ref bT, .ref bF, .int al, .ref bN, .ref bP, .ref bQ, .ref bR, .int sz1, .int un, .int (b2i mo), .int tl, .int (b2i sp), .int tpo, .long fro, .int (b2i ly)])), (bP, .inl (kP, 2, .inl pw)), (bQ, .inl (kQ, 2, .inr (.inl pt)))]) [0, 3, 4] (by decide) rfl
  have hKc := hK.sub (tys' := [(kP, .int), (kQ, .long)]) [2, 3] rfl
  have hFc := va_free (wc := [(bM, .inr (3, [.int cd, .int wd, .ref bT, .ref bF, .int al, .ref bN, .ref bP, .ref bQ, .ref bR, .int sz1, .int un, .int (b2i mo), .int tl, .int (b2i sp), .int tpo, .long fro, .int (b2i ly)])), (bP, .inl (kP, 2, .inl pw)), (bQ, .inl (kQ, 2, .inr (.inl pt)))]) hD hS hA [0, 3, 4] rfl
  refine cc_i (va_runV (As := [.int 0]) (rest := []) ⟨hx, hb, hml, hown, htA⟩ (c_M_isNone l dC dI kP kQ bM bP bQ bT bF bN bR H.size cd wd al sz1 un mo tl sp tpo fro ly pw pt 0 in2_0) (cwV 1 htA (gi_V k_335 k_336 k_337 k_263 (gi_code k_257)) rfl rfl rfl (by decide +kernel) ⟨Nat.le_of_ble_eq_true rfl, Nat.le_of_ble_eq_true rfl⟩) (pre_V hnw hPc hKc hDc (ci := 3) (q0 := 0) rfl rfl) rfl rfl hl.1 rfl (lv_room (Nat.le_of_ble_eq_true rfl)) d_M_noNumber_2 ⟨Nat.le_of_ble_eq_true rfl, Nat.le_of_ble_eq_true rfl⟩) hS hFc hP hD [0, 3, 4] [1, 2] (wr := [(bT, .inl (kT, 8, .inl mT)), (bF, .inl (kF, 8, .inr (.inl mF)))]) rfl rfl (by decide) (by decide) (fun H locs hP hD hS => ?_)
  have hP : va_P (dC, dI) classes [(bT, .inl (kT, 8, .inl mT)), (bF, .inl (kF, 8, .inr (.inl mF))), (bM, .inr (3, [.int cd, .int wd, .ref bT, .ref bF, .int al, .ref bN, .ref bP, .ref bQ, .ref bR, .int sz1, .int un, .int (b2i mo), .int tl, .int (b2i sp), .int tpo, .long fro, .int (b2i ly)])), (bP, .inl (kP, 2, .inl pw)), (bQ, .inl (kQ, 2, .inr (.inl pt)))] H := hP
  have hD : va_D A [(bT, .inl (kT, 8, .inl mT)), (bF, .inl (kF, 8, .inr (.inl mF))), (bM, .inr (3, [.int cd, .int wd, .ref bT, .ref bF, .int al, .ref bN, .ref bP, .ref bQ, .ref bR, .int sz1, .int un, .int (b2i mo), .int tl, .int (b2i sp), .int tpo, .long fro, .int (b2i ly)])), (bP, .inl (kP, 2, .inl pw)), (bQ, .inl (kQ, 2, .inr (.inl pt)))] := hD
  refine cut_join (X := Bool) 0 0 (fun (x : Bool) (H : Heap) (locs : List Loc) (ls : Array Slot) => (if (g_M_isNone pw pt 0) = true then false else true) = x ∧ va_P (dC, dI) classes [(bT, .inl (kT, 8, .inl mT)), (bF, .inl (kF, 8, .inr (.inl mF))), (bM, .inr (3, [.int cd, .int wd, .ref bT, .ref bF, .int al, .ref bN, .ref bP, .ref bQ, .ref bR, .int sz1, .int un, .int (b2i mo), .int tl, .int (b2i sp), .int tpo, .long fro, .int (b2i ly)])), (bP, .inl (kP, 2, .inl pw)), (bQ, .inl (kQ, 2, .inr (.inl pt)))] H ∧ va_D A [(bT, .inl (kT, 8, .inl mT)), (bF, .inl (kF, 8, .inr (.inl mF))), (bM, .inr (3, [.int cd, .int wd, .ref bT, .ref bF, .int al, .ref bN, .ref bP, .ref bQ, .ref bR, .int sz1, .int un, .int (b2i mo), .int tl, .int (b2i sp), .int tpo, .long fro, .int (b2i ly)])), (bP, .inl (kP, 2, .inl pw)), (bQ, .inl (kQ, 2, .inr (.inl pt)))] ∧ va_S A s.heap H locs ∧ lv_has ls 5 [(0, .ref bM), (1, .int ict), (2, .int ia), (3, .int ib)]) (fun x ls => F0 m 13 ls [.int (b2i x)]) ?_ (fun J13 => ?_)
  · skip
    rintro j13_0 H locs ls ⟨ej13_0, hP, hD, hS, hl⟩
    have ej13_0 : (if (g_M_isNone pw pt 0) = true then false else true) = j13_0 := ej13_0
    have hP : va_P (dC, dI) classes [(bT, .inl (kT, 8, .inl mT)), (bF, .inl (kF, 8, .inr (.inl mF))), (bM, .inr (3, [.int cd, .int wd, .ref bT, .ref bF, .int al, .ref bN, .ref bP, .ref bQ, .ref bR, .int sz1, .int un, .int (b2i mo), .int tl, .int (b2i sp), .int tpo, .long fro, .int (b2i ly)])), (bP, .inl (kP, 2, .inl pw)), (bQ, .inl (kQ, 2, .inr (.inl pt)))] H := hP
    have hD : va_D A [(bT, .inl (kT, 8, .inl mT)), (bF, .inl (kF, 8, .inr (.inl mF))), (bM, .inr (3, [.int cd, .int wd, .ref bT, .ref bF, .int al, .ref bN, .ref bP, .ref bQ, .ref bR, .int sz1, .int un, .int (b2i mo), .int tl, .int (b2i sp), .int tpo, .long fro, .int (b2i ly)])), (bP, .inl (kP, 2, .inl pw)), (bQ, .inl (kQ, 2, .inr (.inl pt)))] := hD
    have hl : lv_has ls 5 [(0, .ref bM), (1, .int ict), (2, .int ia), (3, .int ib)] := hl
    refine lv_istore (lv' := [(4, .int (b2i j13_0)), (0, .ref bM), (1, .int ict), (2, .int ia), (3, .int ib)]) hx hb d_M_noNumber_13 hl (by decide) rfl (fun ls hl => ?_)
    refine lv_iload_n hx hb d_M_noNumber_15 rfl (lv_at hl 2 rfl) ?_
    refine lv_iconst (v := 2) hx hb d_M_noNumber_16 (by decide) ?_
    refine cut_join (X := Bool) 0 0 (fun (x : Bool) (H : Heap) (locs : List Loc) (ls : Array Slot) => (if ict = 2 then if (g_M_isNone pw pt 0) = true then if (g_M_isNone pw pt 1) = true then if (pt (0 : Int32).toNatClampNeg) = (pt (1 : Int32).toNatClampNeg) then if (mT ia.toNatClampNeg) ≤ 32767 then false else if 32767 < (mT ib.toNatClampNeg) then false else true else (g_M_below (pt (0 : Int32).toNatClampNeg) (pt (1 : Int32).toNatClampNeg)) else j13_0 else j13_0 else j13_0) = x ∧ va_P (dC, dI) classes [(bT, .inl (kT, 8, .inl mT)), (bF, .inl (kF, 8, .inr (.inl mF))), (bM, .inr (3, [.int cd, .int wd, .ref bT, .ref bF, .int al, .ref bN, .ref bP, .ref bQ, .ref bR, .int sz1, .int un, .int (b2i mo), .int tl, .int (b2i sp), .int tpo, .long fro, .int (b2i ly)])), (bP, .inl (kP, 2, .inl pw)), (bQ, .inl (kQ, 2, .inr (.inl pt)))] H ∧ va_D A [(bT, .inl (kT, 8, .inl mT)), (bF, .inl (kF, 8, .inr (.inl mF))), (bM, .inr (3, [.int cd, .int wd, .ref bT, .ref bF, .int al, .ref bN, .ref bP, .ref bQ, .ref bR, .int sz1, .int un, .int (b2i mo), .int tl, .int (b2i sp), .int tpo, .long fro, .int (b2i ly)])), (bP, .inl (kP, 2, .inl pw)), (bQ, .inl (kQ, 2, .inr (.inl pt)))] ∧ va_S A s.heap H locs ∧ lv_has ls 5 [(0, .ref bM), (1, .int ict), (2, .int ia), (3, .int ib), (4, .int (b2i x))]) (fun x ls => F0 m 101 ls []) ?_ (fun J101 => ?_)
    · skip
      rintro j101_0 H locs ls ⟨ej101_0, hP, hD, hS, hl⟩
      have ej101_0 : (if ict = 2 then if (g_M_isNone pw pt 0) = true then if (g_M_isNone pw pt 1) = true then if (pt (0 : Int32).toNatClampNeg) = (pt (1 : Int32).toNatClampNeg) then if (mT ia.toNatClampNeg) ≤ 32767 then false else if 32767 < (mT ib.toNatClampNeg) then false else true else (g_M_below (pt (0 : Int32).toNatClampNeg) (pt (1 : Int32).toNatClampNeg)) else j13_0 else j13_0 else j13_0) = j101_0 := ej101_0
      have hP : va_P (dC, dI) classes [(bT, .inl (kT, 8, .inl mT)), (bF, .inl (kF, 8, .inr (.inl mF))), (bM, .inr (3, [.int cd, .int wd, .ref bT, .ref bF, .int al, .ref bN, .ref bP, .ref bQ, .ref bR, .int sz1, .int un, .int (b2i mo), .int tl, .int (b2i sp), .int tpo, .long fro, .int (b2i ly)])), (bP, .inl (kP, 2, .inl pw)), (bQ, .inl (kQ, 2, .inr (.inl pt)))] H := hP
      have hD : va_D A [(bT, .inl (kT, 8, .inl mT)), (bF, .inl (kF, 8, .inr (.inl mF))), (bM, .inr (3, [.int cd, .int wd, .ref bT, .ref bF, .int al, .ref bN, .ref bP, .ref bQ, .ref bR, .int sz1, .int un, .int (b2i mo), .int tl, .int (b2i sp), .int tpo, .long fro, .int (b2i ly)])), (bP, .inl (kP, 2, .inl pw)), (bQ, .inl (kQ, 2, .inr (.inl pt)))] := hD
      have hl : lv_has ls 5 [(0, .ref bM), (1, .int ict), (2, .int ia), (3, .int ib), (4, .int (b2i j101_0))] := hl
      refine lv_aload_n hx hb d_M_noNumber_101 rfl (lv_at hl 0 rfl) ?_
      refine lv_iconst (v := 1) hx hb d_M_noNumber_102 (by decide) ?_
      have hPc := hP.sub (ws' := [(bM, .inr (3, [.int cd, .int wd, .ref bT, .ref bF, .int al, .ref bN, .ref bP, .ref bQ, .ref bR, .int sz1, .int un, .int (b2i mo), .int tl, .int (b2i sp), .int tpo, .long fro, .int (b2i ly)]))]) [2] rfl
      have hDc := hD.sub (ws' := [(bM, .inr (3, [.int cd, .int wd, .ref bT, .ref bF, .int al, .ref bN, .ref bP, .ref bQ, .ref bR, .int sz1, .int un, .int (b2i mo), .int tl, .int (b2i sp), .int tpo, .long fro, .int (b2i ly)]))]) [2] (by decide) rfl
      have hKc := hK.sub (tys' := []) [] rfl
      have hFc := va_free (wc := [(bM, .inr (3, [.int cd, .int wd, .ref bT, .ref bF, .int al, .ref bN, .ref bP, .ref bQ, .ref bR, .int sz1, .int un, .int (b2i mo), .int tl, .int (b2i sp), .int tpo, .long fro, .int (b2i ly)]))]) hD hS hA [2] rfl
      refine cc_i (va_runV (As := [.int 1]) (rest := []) ⟨hx, hb, hml, hown, htA⟩ (c_M_tell l dC dI bM bT bF bN bP bQ bR H.size cd wd al sz1 un mo tl sp tpo fro ly 1) (cwV 1 htA (gi_V k_338 k_339 k_340 k_263 (gi_code k_250)) rfl rfl rfl (by decide +kernel) ⟨Nat.le_of_ble_eq_true rfl, Nat.le_of_ble_eq_true rfl⟩) (pre_V hnw hPc hKc hDc (ci := 3) (q0 := 0) rfl rfl) rfl rfl hl.1 rfl (lv_room (Nat.le_of_ble_eq_true rfl)) d_M_noNumber_103 ⟨Nat.le_of_ble_eq_true rfl, Nat.le_of_ble_eq_true rfl⟩) hS hFc hP hD [2] [0, 1, 3, 4] (wr := [(bT, .inl (kT, 8, .inl mT)), (bF, .inl (kF, 8, .inr (.inl mF))), (bP, .inl (kP, 2, .inl pw)), (bQ, .inl (kQ, 2, .inr (.inl pt)))]) rfl rfl (by decide) (by decide) (fun H locs hP hD hS => ?_)
      obtain ⟨z103, ez103⟩ : ∃ z, g_M_tell wd tl 1 = z := ⟨_, rfl⟩
      rw [ez103] at hP hD ⊢
      have hP : va_P (dC, dI) classes [(bT, .inl (kT, 8, .inl mT)), (bF, .inl (kF, 8, .inr (.inl mF))), (bP, .inl (kP, 2, .inl pw)), (bQ, .inl (kQ, 2, .inr (.inl pt))), (bM, .inr (3, [.int cd, .int wd, .ref bT, .ref bF, .int al, .ref bN, .ref bP, .ref bQ, .ref bR, .int sz1, .int un, .int (b2i mo), .int z103.2.1, .int (b2i z103.2.2), .int tpo, .long fro, .int (b2i ly)]))] H := hP
      have hD : va_D A [(bT, .inl (kT, 8, .inl mT)), (bF, .inl (kF, 8, .inr (.inl mF))), (bP, .inl (kP, 2, .inl pw)), (bQ, .inl (kQ, 2, .inr (.inl pt))), (bM, .inr (3, [.int cd, .int wd, .ref bT, .ref bF, .int al, .ref bN, .ref bP, .ref bQ, .ref bR, .int sz1, .int un, .int (b2i mo), .int z103.2.1, .int (b2i z103.2.2), .int tpo, .long fro, .int (b2i ly)]))] := hD
      refine lv_if_ne (tgt := 110) hx hb d_M_noNumber_106 (by decide) (fun c_106 => ?_) (fun c_106 => ?_)
      · skip
        have c_106 : z103.1 = true := b2i_nz c_106
        refine lv_aload_n hx hb d_M_noNumber_110 rfl (lv_at hl 0 rfl) ?_
        refine lv_iload hx hb d_M_noNumber_111 (lv_at hl 4 rfl) ?_
        refine cut_join (X := Int32) 0 0 (fun (x : Int32) (H : Heap) (locs : List Loc) (ls : Array Slot) => (if j101_0 = true then (mT ib.toNatClampNeg) else (mT ia.toNatClampNeg)) = x ∧ va_P (dC, dI) classes [(bT, .inl (kT, 8, .inl mT)), (bF, .inl (kF, 8, .inr (.inl mF))), (bP, .inl (kP, 2, .inl pw)), (bQ, .inl (kQ, 2, .inr (.inl pt))), (bM, .inr (3, [.int cd, .int wd, .ref bT, .ref bF, .int al, .ref bN, .ref bP, .ref bQ, .ref bR, .int sz1, .int un, .int (b2i mo), .int z103.2.1, .int (b2i z103.2.2), .int tpo, .long fro, .int (b2i ly)]))] H ∧ va_D A [(bT, .inl (kT, 8, .inl mT)), (bF, .inl (kF, 8, .inr (.inl mF))), (bP, .inl (kP, 2, .inl pw)), (bQ, .inl (kQ, 2, .inr (.inl pt))), (bM, .inr (3, [.int cd, .int wd, .ref bT, .ref bF, .int al, .ref bN, .ref bP, .ref bQ, .ref bR, .int sz1, .int un, .int (b2i mo), .int z103.2.1, .int (b2i z103.2.2), .int tpo, .long fro, .int (b2i ly)]))] ∧ va_S A s.heap H locs ∧ lv_has ls 5 [(0, .ref bM), (1, .int ict), (2, .int ia), (3, .int ib), (4, .int (b2i j101_0))]) (fun x ls => F0 m 131 ls [.int x, .ref bM]) ?_ (fun J131 => ?_)
        · skip
          rintro j131_0 H locs ls ⟨ej131_0, hP, hD, hS, hl⟩
          have ej131_0 : (if j101_0 = true then (mT ib.toNatClampNeg) else (mT ia.toNatClampNeg)) = j131_0 := ej131_0
          have hP : va_P (dC, dI) classes [(bT, .inl (kT, 8, .inl mT)), (bF, .inl (kF, 8, .inr (.inl mF))), (bP, .inl (kP, 2, .inl pw)), (bQ, .inl (kQ, 2, .inr (.inl pt))), (bM, .inr (3, [.int cd, .int wd, .ref bT, .ref bF, .int al, .ref bN, .ref bP, .ref bQ, .ref bR, .int sz1, .int un, .int (b2i mo), .int z103.2.1, .int (b2i z103.2.2), .int tpo, .long fro, .int (b2i ly)]))] H := hP
          have hD : va_D A [(bT, .inl (kT, 8, .inl mT)), (bF, .inl (kF, 8, .inr (.inl mF))), (bP, .inl (kP, 2, .inl pw)), (bQ, .inl (kQ, 2, .inr (.inl pt))), (bM, .inr (3, [.int cd, .int wd, .ref bT, .ref bF, .int al, .ref bN, .ref bP, .ref bQ, .ref bR, .int sz1, .int un, .int (b2i mo), .int z103.2.1, .int (b2i z103.2.2), .int tpo, .long fro, .int (b2i ly)]))] := hD
          have hl : lv_has ls 5 [(0, .ref bM), (1, .int ict), (2, .int ia), (3, .int ib), (4, .int (b2i j101_0))] := hl
          refine va_put (D := (dC, dI)) (ci := 3) (v := .int j131_0) (ty := .int) (C := R_M) (T := F_M) (N := 17) hx hb htA in_M t_M t_M_ok n_M hown hK hP hD hS 4 rfl rfl 14 (by decide) (htA _ k_252) (fun _ h9 => h9) rfl (by decide +kernel) rfl rfl (Nat.le_of_ble_eq_true rfl) d_M_noNumber_131 (fun H locs hP hD hS => ?_)
          have hP : va_P (dC, dI) classes [(bT, .inl (kT, 8, .inl mT)), (bF, .inl (kF, 8, .inr (.inl mF))), (bP, .inl (kP, 2, .inl pw)), (bQ, .inl (kQ, 2, .inr (.inl pt))), (bM, .inr (3, [.int cd, .int wd, .ref bT, .ref bF, .int al, .ref bN, .ref bP, .ref bQ, .ref bR, .int sz1, .int un, .int (b2i mo), .int z103.2.1, .int (b2i z103.2.2), .int j131_0, .long fro, .int (b2i ly)]))] H := hP
          have hD : va_D A [(bT, .inl (kT, 8, .inl mT)), (bF, .inl (kF, 8, .inr (.inl mF))), (bP, .inl (kP, 2, .inl pw)), (bQ, .inl (kQ, 2, .inr (.inl pt))), (bM, .inr (3, [.int cd, .int wd, .ref bT, .ref bF, .int al, .ref bN, .ref bP, .ref bQ, .ref bR, .int sz1, .int un, .int (b2i mo), .int z103.2.1, .int (b2i z103.2.2), .int j131_0, .long fro, .int (b2i ly)]))] := hD
          refine lv_aload_n hx hb d_M_noNumber_134 rfl (lv_at hl 0 rfl) ?_
          refine lv_iload hx hb d_M_noNumber_135 (lv_at hl 4 rfl) ?_
          refine cut_join (X := Int64) 0 0 (fun (x : Int64) (H : Heap) (locs : List Loc) (ls : Array Slot) => (if j101_0 = true then (mF ib.toNatClampNeg) else (mF ia.toNatClampNeg)) = x ∧ va_P (dC, dI) classes [(bT, .inl (kT, 8, .inl mT)), (bF, .inl (kF, 8, .inr (.inl mF))), (bP, .inl (kP, 2, .inl pw)), (bQ, .inl (kQ, 2, .inr (.inl pt))), (bM, .inr (3, [.int cd, .int wd, .ref bT, .ref bF, .int al, .ref bN, .ref bP, .ref bQ, .ref bR, .int sz1, .int un, .int (b2i mo), .int z103.2.1, .int (b2i z103.2.2), .int j131_0, .long fro, .int (b2i ly)]))] H ∧ va_D A [(bT, .inl (kT, 8, .inl mT)), (bF, .inl (kF, 8, .inr (.inl mF))), (bP, .inl (kP, 2, .inl pw)), (bQ, .inl (kQ, 2, .inr (.inl pt))), (bM, .inr (3, [.int cd, .int wd, .ref bT, .ref bF, .int al, .ref bN, .ref bP, .ref bQ, .ref bR, .int sz1, .int un, .int (b2i mo), .int z103.2.1, .int (b2i z103.2.2), .int j131_0, .long fro, .int (b2i ly)]))] ∧ va_S A s.heap H locs ∧ lv_has ls 5 [(0, .ref bM), (1, .int ict), (2, .int ia), (3, .int ib), (4, .int (b2i j101_0))]) (fun x ls => F0 m 155 ls [.long x, .ref bM]) ?_ (fun J155 => ?_)
          · skip
            rintro j155_0 H locs ls ⟨ej155_0, hP, hD, hS, hl⟩
            have ej155_0 : (if j101_0 = true then (mF ib.toNatClampNeg) else (mF ia.toNatClampNeg)) = j155_0 := ej155_0
            have hP : va_P (dC, dI) classes [(bT, .inl (kT, 8, .inl mT)), (bF, .inl (kF, 8, .inr (.inl mF))), (bP, .inl (kP, 2, .inl pw)), (bQ, .inl (kQ, 2, .inr (.inl pt))), (bM, .inr (3, [.int cd, .int wd, .ref bT, .ref bF, .int al, .ref bN, .ref bP, .ref bQ, .ref bR, .int sz1, .int un, .int (b2i mo), .int z103.2.1, .int (b2i z103.2.2), .int j131_0, .long fro, .int (b2i ly)]))] H := hP
            have hD : va_D A [(bT, .inl (kT, 8, .inl mT)), (bF, .inl (kF, 8, .inr (.inl mF))), (bP, .inl (kP, 2, .inl pw)), (bQ, .inl (kQ, 2, .inr (.inl pt))), (bM, .inr (3, [.int cd, .int wd, .ref bT, .ref bF, .int al, .ref bN, .ref bP, .ref bQ, .ref bR, .int sz1, .int un, .int (b2i mo), .int z103.2.1, .int (b2i z103.2.2), .int j131_0, .long fro, .int (b2i ly)]))] := hD
            have hl : lv_has ls 5 [(0, .ref bM), (1, .int ict), (2, .int ia), (3, .int ib), (4, .int (b2i j101_0))] := hl
            refine va_put (D := (dC, dI)) (ci := 3) (v := .long j155_0) (ty := .long) (C := R_M) (T := F_M) (N := 17) hx hb htA in_M t_M t_M_ok n_M hown hK hP hD hS 4 rfl rfl 15 (by decide) (htA _ k_253) (fun _ h9 => h9) rfl (by decide +kernel) rfl rfl (Nat.le_of_ble_eq_true rfl) d_M_noNumber_155 (fun H locs hP hD hS => ?_)
            have hP : va_P (dC, dI) classes [(bT, .inl (kT, 8, .inl mT)), (bF, .inl (kF, 8, .inr (.inl mF))), (bP, .inl (kP, 2, .inl pw)), (bQ, .inl (kQ, 2, .inr (.inl pt))), (bM, .inr (3, [.int cd, .int wd, .ref bT, .ref bF, .int al, .ref bN, .ref bP, .ref bQ, .ref bR, .int sz1, .int un, .int (b2i mo), .int z103.2.1, .int (b2i z103.2.2), .int j131_0, .long j155_0, .int (b2i ly)]))] H := hP
            have hD : va_D A [(bT, .inl (kT, 8, .inl mT)), (bF, .inl (kF, 8, .inr (.inl mF))), (bP, .inl (kP, 2, .inl pw)), (bQ, .inl (kQ, 2, .inr (.inl pt))), (bM, .inr (3, [.int cd, .int wd, .ref bT, .ref bF, .int al, .ref bN, .ref bP, .ref bQ, .ref bR, .int sz1, .int un, .int (b2i mo), .int z103.2.1, .int (b2i z103.2.2), .int j131_0, .long j155_0, .int (b2i ly)]))] := hD
            have hE : g_M_noNumber wd tl tpo fro mT mF pw pt ict ia ib = (z103.2.1, z103.2.2, j131_0, j155_0) := by clear hP hD hl hS; subst ej155_0; subst ej131_0; subst ez103; subst ej101_0; subst ej13_0; unfold g_M_noNumber; (try dsimp only); rw [if_pos c_106]
            have hP9 : va_P (dC, dI) classes [(bM, .inr (3, [.int cd, .int wd, .ref bT, .ref bF, .int al, .ref bN, .ref bP, .ref bQ, .ref bR, .int sz1, .int un, .int (b2i mo), .int ((g_M_noNumber wd tl tpo fro mT mF pw pt ict ia ib).1), .int (b2i ((g_M_noNumber wd tl tpo fro mT mF pw pt ict ia ib).2.1)), .int ((g_M_noNumber wd tl tpo fro mT mF pw pt ict ia ib).2.2.1), .long ((g_M_noNumber wd tl tpo fro mT mF pw pt ict ia ib).2.2.2), .int (b2i ly)])), (bT, .inl (kT, 8, .inl mT)), (bF, .inl (kF, 8, .inr (.inl mF))), (bP, .inl (kP, 2, .inl pw)), (bQ, .inl (kQ, 2, .inr (.inl pt)))] H := by rw [hE]; exact hP.sub [4, 0, 1, 2, 3] rfl
            have hD9 : va_D A [(bM, .inr (3, [.int cd, .int wd, .ref bT, .ref bF, .int al, .ref bN, .ref bP, .ref bQ, .ref bR, .int sz1, .int un, .int (b2i mo), .int ((g_M_noNumber wd tl tpo fro mT mF pw pt ict ia ib).1), .int (b2i ((g_M_noNumber wd tl tpo fro mT mF pw pt ict ia ib).2.1)), .int ((g_M_noNumber wd tl tpo fro mT mF pw pt ict ia ib).2.2.1), .long ((g_M_noNumber wd tl tpo fro mT mF pw pt ict ia ib).2.2.2), .int (b2i ly)])), (bT, .inl (kT, 8, .inl mT)), (bF, .inl (kF, 8, .inr (.inl mF))), (bP, .inl (kP, 2, .inl pw)), (bQ, .inl (kQ, 2, .inr (.inl pt)))] := by rw [hE]; exact hD.sub [4, 0, 1, 2, 3] (by decide) rfl
            exact W.vret hx hb hr (fun t ht hW => ⟨⟨(), rfl, trivial, by rw [ht]; exact hP9, hD9⟩, hS.F ht⟩) hS.2.2 d_M_noNumber_158
          · skip
            refine lv_if_eq (tgt := 149) hx hb d_M_noNumber_137 (by decide) (fun c_137 => ?_) (fun c_137 => ?_)
            · skip
              have c_137 : ¬ j101_0 = true := b2i_z c_137
              refine lv_aload_n hx hb d_M_noNumber_149 rfl (lv_at hl 0 rfl) ?_
              refine va_get (D := (dC, dI)) (ci := 3) (v := .ref bF) (C := R_M) (T := F_M) (N := 17) hx hb htA in_M hown hK hP 4 rfl rfl 3 (by decide) (htA _ k_267) (fun _ h9 => h9) rfl d_M_noNumber_150 ?_
              refine lv_iload_n hx hb d_M_noNumber_153 rfl (lv_at hl 2 rfl) ?_
              refine va_lald hx hb hK hP 1 1 rfl rfl ha8 d_M_noNumber_154 ?_
              exact J155 ((mF ia.toNatClampNeg)) H locs ls ⟨by clear hP hD hl hS; (try dsimp only); rw [if_neg c_137], hP.sub [0, 1, 2, 3, 4] rfl, hD.sub [0, 1, 2, 3, 4] (by decide) rfl, hS, lv_sub hl [0, 1, 2, 3, 4] rfl⟩
            · skip
              have c_137 : j101_0 = true := b2i_nz c_137
              refine lv_aload_n hx hb d_M_noNumber_140 rfl (lv_at hl 0 rfl) ?_
              refine va_get (D := (dC, dI)) (ci := 3) (v := .ref bF) (C := R_M) (T := F_M) (N := 17) hx hb htA in_M hown hK hP 4 rfl rfl 3 (by decide) (htA _ k_267) (fun _ h9 => h9) rfl d_M_noNumber_141 ?_
              refine lv_iload_n hx hb d_M_noNumber_144 rfl (lv_at hl 3 rfl) ?_
              refine va_lald hx hb hK hP 1 1 rfl rfl hb8 d_M_noNumber_145 ?_
              refine lv_goto (tgt := 155) hx hb d_M_noNumber_146 (by decide) ?_
              exact J155 ((mF ib.toNatClampNeg)) H locs ls ⟨by clear hP hD hl hS; (try dsimp only); rw [if_pos c_137], hP.sub [0, 1, 2, 3, 4] rfl, hD.sub [0, 1, 2, 3, 4] (by decide) rfl, hS, lv_sub hl [0, 1, 2, 3, 4] rfl⟩
        · skip
          refine lv_if_eq (tgt := 125) hx hb d_M_noNumber_113 (by decide) (fun c_113 => ?_) (fun c_113 => ?_)
          · skip
            have c_113 : ¬ j101_0 = true := b2i_z c_113
            refine lv_aload_n hx hb d_M_noNumber_125 rfl (lv_at hl 0 rfl) ?_
            refine va_get (D := (dC, dI)) (ci := 3) (v := .ref bT) (C := R_M) (T := F_M) (N := 17) hx hb htA in_M hown hK hP 4 rfl rfl 2 (by decide) (htA _ k_266) (fun _ h9 => h9) rfl d_M_noNumber_126 ?_
            refine lv_iload_n hx hb d_M_noNumber_129 rfl (lv_at hl 2 rfl) ?_
            refine va_iald hx hb hK hP 0 0 rfl rfl ha8 d_M_noNumber_130 ?_
            exact J131 ((mT ia.toNatClampNeg)) H locs ls ⟨by clear hP hD hl hS; (try dsimp only); rw [if_neg c_113], hP.sub [0, 1, 2, 3, 4] rfl, hD.sub [0, 1, 2, 3, 4] (by decide) rfl, hS, lv_sub hl [0, 1, 2, 3, 4] rfl⟩
          · skip
            have c_113 : j101_0 = true := b2i_nz c_113
            refine lv_aload_n hx hb d_M_noNumber_116 rfl (lv_at hl 0 rfl) ?_
            refine va_get (D := (dC, dI)) (ci := 3) (v := .ref bT) (C := R_M) (T := F_M) (N := 17) hx hb htA in_M hown hK hP 4 rfl rfl 2 (by decide) (htA _ k_266) (fun _ h9 => h9) rfl d_M_noNumber_117 ?_
            refine lv_iload_n hx hb d_M_noNumber_120 rfl (lv_at hl 3 rfl) ?_
            refine va_iald hx hb hK hP 0 0 rfl rfl hb8 d_M_noNumber_121 ?_
            refine lv_goto (tgt := 131) hx hb d_M_noNumber_122 (by decide) ?_
            exact J131 ((mT ib.toNatClampNeg)) H locs ls ⟨by clear hP hD hl hS; (try dsimp only); rw [if_pos c_113], hP.sub [0, 1, 2, 3, 4] rfl, hD.sub [0, 1, 2, 3, 4] (by decide) rfl, hS, lv_sub hl [0, 1, 2, 3, 4] rfl⟩
      · skip
        have c_106 : ¬ z103.1 = true := b2i_z c_106
        have hE : g_M_noNumber wd tl tpo fro mT mF pw pt ict ia ib = (z103.2.1, z103.2.2, tpo, fro) := by clear hP hD hl hS; subst ez103; subst ej101_0; subst ej13_0; unfold g_M_noNumber; (try dsimp only); rw [if_neg c_106]
        have hP9 : va_P (dC, dI) classes [(bM, .inr (3, [.int cd, .int wd, .ref bT, .ref bF, .int al, .ref bN, .ref bP, .ref bQ, .ref bR, .int sz1, .int un, .int (b2i mo), .int ((g_M_noNumber wd tl tpo fro mT mF pw pt ict ia ib).1), .int (b2i ((g_M_noNumber wd tl tpo fro mT mF pw pt ict ia ib).2.1)), .int ((g_M_noNumber wd tl tpo fro mT mF pw pt ict ia ib).2.2.1), .long ((g_M_noNumber wd tl tpo fro mT mF pw pt ict ia ib).2.2.2), .int (b2i ly)])), (bT, .inl (kT, 8, .inl mT)), (bF, .inl (kF, 8, .inr (.inl mF))), (bP, .inl (kP, 2, .inl pw)), (bQ, .inl (kQ, 2, .inr (.inl pt)))] H := by rw [hE]; exact hP.sub [4, 0, 1, 2, 3] rfl
        have hD9 : va_D A [(bM, .inr (3, [.int cd, .int wd, .ref bT, .ref bF, .int al, .ref bN, .ref bP, .ref bQ, .ref bR, .int sz1, .int un, .int (b2i mo), .int ((g_M_noNumber wd tl tpo fro mT mF pw pt ict ia ib).1), .int (b2i ((g_M_noNumber wd tl tpo fro mT mF pw pt ict ia ib).2.1)), .int ((g_M_noNumber wd tl tpo fro mT mF pw pt ict ia ib).2.2.1), .long ((g_M_noNumber wd tl tpo fro mT mF pw pt ict ia ib).2.2.2), .int (b2i ly)])), (bT, .inl (kT, 8, .inl mT)), (bF, .inl (kF, 8, .inr (.inl mF))), (bP, .inl (kP, 2, .inl pw)), (bQ, .inl (kQ, 2, .inr (.inl pt)))] := by rw [hE]; exact hD.sub [4, 0, 1, 2, 3] (by decide) rfl
        exact W.vret hx hb hr (fun t ht hW => ⟨⟨(), rfl, trivial, by rw [ht]; exact hP9, hD9⟩, hS.F ht⟩) hS.2.2 d_M_noNumber_109
    · skip
      refine lv_icmp_ne (tgt := 101) hx hb d_M_noNumber_17 (by decide) (fun c_17 => ?_) (fun c_17 => ?_)
      · skip
        exact J101 (j13_0) H locs ls ⟨by clear hP hD hl hS; (try dsimp only); rw [if_neg c_17], hP.sub [0, 1, 2, 3, 4] rfl, hD.sub [0, 1, 2, 3, 4] (by decide) rfl, hS, lv_sub hl [1, 2, 3, 4, 0] rfl⟩
      · skip
        refine lv_aload_n hx hb d_M_noNumber_20 rfl (lv_at hl 1 rfl) ?_
        refine lv_iconst (v := 0) hx hb d_M_noNumber_21 (by decide) ?_
        have hPc := hP.sub (ws' := [(bM, .inr (3, [.int cd, .int wd, .ref bT, .ref bF, .int al, .ref bN, .ref bP, .ref bQ, .ref bR, .int sz1, .int un, .int (b2i mo), .int tl, .int (b2i sp), .int tpo, .long fro, .int (b2i ly)])), (bP, .inl (kP, 2, .inl pw)), (bQ, .inl (kQ, 2, .inr (.inl pt)))]) [2, 3, 4] rfl
        have hDc := hD.sub (ws' := [(bM, .inr (3, [.int cd, .int wd, .ref bT, .ref bF, .int al, .ref bN, .ref bP, .ref bQ, .ref bR, .int sz1, .int un, .int (b2i mo), .int tl, .int (b2i sp), .int tpo, .long fro, .int (b2i ly)])), (bP, .inl (kP, 2, .inl pw)), (bQ, .inl (kQ, 2, .inr (.inl pt)))]) [2, 3, 4] (by decide) rfl
        have hKc := hK.sub (tys' := [(kP, .int), (kQ, .long)]) [2, 3] rfl
        have hFc := va_free (wc := [(bM, .inr (3, [.int cd, .int wd, .ref bT, .ref bF, .int al, .ref bN, .ref bP, .ref bQ, .ref bR, .int sz1, .int un, .int (b2i mo), .int tl, .int (b2i sp), .int tpo, .long fro, .int (b2i ly)])), (bP, .inl (kP, 2, .inl pw)), (bQ, .inl (kQ, 2, .inr (.inl pt)))]) hD hS hA [2, 3, 4] rfl
        refine cc_i (va_runV (As := [.int 0]) (rest := []) ⟨hx, hb, hml, hown, htA⟩ (c_M_isNone l dC dI kP kQ bM bP bQ bT bF bN bR H.size cd wd al sz1 un mo tl sp tpo fro ly pw pt 0 in2_0) (cwV 1 htA (gi_V k_335 k_336 k_337 k_263 (gi_code k_257)) rfl rfl rfl (by decide +kernel) ⟨Nat.le_of_ble_eq_true rfl, Nat.le_of_ble_eq_true rfl⟩) (pre_V hnw hPc hKc hDc (ci := 3) (q0 := 0) rfl rfl) rfl rfl hl.1 rfl (lv_room (Nat.le_of_ble_eq_true rfl)) d_M_noNumber_22 ⟨Nat.le_of_ble_eq_true rfl, Nat.le_of_ble_eq_true rfl⟩) hS hFc hP hD [2, 3, 4] [0, 1] (wr := [(bT, .inl (kT, 8, .inl mT)), (bF, .inl (kF, 8, .inr (.inl mF)))]) rfl rfl (by decide) (by decide) (fun H locs hP hD hS => ?_)
        have hP : va_P (dC, dI) classes [(bT, .inl (kT, 8, .inl mT)), (bF, .inl (kF, 8, .inr (.inl mF))), (bM, .inr (3, [.int cd, .int wd, .ref bT, .ref bF, .int al, .ref bN, .ref bP, .ref bQ, .ref bR, .int sz1, .int un, .int (b2i mo), .int tl, .int (b2i sp), .int tpo, .long fro, .int (b2i ly)])), (bP, .inl (kP, 2, .inl pw)), (bQ, .inl (kQ, 2, .inr (.inl pt)))] H := hP
        have hD : va_D A [(bT, .inl (kT, 8, .inl mT)), (bF, .inl (kF, 8, .inr (.inl mF))), (bM, .inr (3, [.int cd, .int wd, .ref bT, .ref bF, .int al, .ref bN, .ref bP, .ref bQ, .ref bR, .int sz1, .int un, .int (b2i mo), .int tl, .int (b2i sp), .int tpo, .long fro, .int (b2i ly)])), (bP, .inl (kP, 2, .inl pw)), (bQ, .inl (kQ, 2, .inr (.inl pt)))] := hD
        refine lv_if_eq (tgt := 101) hx hb d_M_noNumber_25 (by decide) (fun c_25 => ?_) (fun c_25 => ?_)
        · skip
          have c_25 : ¬ (g_M_isNone pw pt 0) = true := b2i_z c_25
          exact J101 (j13_0) H locs ls ⟨by clear hP hD hl hS; (try dsimp only); rw [if_pos c_17, if_neg c_25], hP.sub [0, 1, 2, 3, 4] rfl, hD.sub [0, 1, 2, 3, 4] (by decide) rfl, hS, lv_sub hl [1, 2, 3, 4, 0] rfl⟩
        · skip
          have c_25 : (g_M_isNone pw pt 0) = true := b2i_nz c_25
          refine lv_aload_n hx hb d_M_noNumber_28 rfl (lv_at hl 1 rfl) ?_
          refine lv_iconst (v := 1) hx hb d_M_noNumber_29 (by decide) ?_
          have hPc := hP.sub (ws' := [(bM, .inr (3, [.int cd, .int wd, .ref bT, .ref bF, .int al, .ref bN, .ref bP, .ref bQ, .ref bR, .int sz1, .int un, .int (b2i mo), .int tl, .int (b2i sp), .int tpo, .long fro, .int (b2i ly)])), (bP, .inl (kP, 2, .inl pw)), (bQ, .inl (kQ, 2, .inr (.inl pt)))]) [2, 3, 4] rfl
          have hDc := hD.sub (ws' := [(bM, .inr (3, [.int cd, .int wd, .ref bT, .ref bF, .int al, .ref bN, .ref bP, .ref bQ, .ref bR, .int sz1, .int un, .int (b2i mo), .int tl, .int (b2i sp), .int tpo, .long fro, .int (b2i ly)])), (bP, .inl (kP, 2, .inl pw)), (bQ, .inl (kQ, 2, .inr (.inl pt)))]) [2, 3, 4] (by decide) rfl
          have hKc := hK.sub (tys' := [(kP, .int), (kQ, .long)]) [2, 3] rfl
          have hFc := va_free (wc := [(bM, .inr (3, [.int cd, .int wd, .ref bT, .ref bF, .int al, .ref bN, .ref bP, .ref bQ, .ref bR, .int sz1, .int un, .int (b2i mo), .int tl, .int (b2i sp), .int tpo, .long fro, .int (b2i ly)])), (bP, .inl (kP, 2, .inl pw)), (bQ, .inl (kQ, 2, .inr (.inl pt)))]) hD hS hA [2, 3, 4] rfl
          refine cc_i (va_runV (As := [.int 1]) (rest := []) ⟨hx, hb, hml, hown, htA⟩ (c_M_isNone l dC dI kP kQ bM bP bQ bT bF bN bR H.size cd wd al sz1 un mo tl sp tpo fro ly pw pt 1 in2_1) (cwV 1 htA (gi_V k_335 k_336 k_337 k_263 (gi_code k_257)) rfl rfl rfl (by decide +kernel) ⟨Nat.le_of_ble_eq_true rfl, Nat.le_of_ble_eq_true rfl⟩) (pre_V hnw hPc hKc hDc (ci := 3) (q0 := 0) rfl rfl) rfl rfl hl.1 rfl (lv_room (Nat.le_of_ble_eq_true rfl)) d_M_noNumber_30 ⟨Nat.le_of_ble_eq_true rfl, Nat.le_of_ble_eq_true rfl⟩) hS hFc hP hD [2, 3, 4] [0, 1] (wr := [(bT, .inl (kT, 8, .inl mT)), (bF, .inl (kF, 8, .inr (.inl mF)))]) rfl rfl (by decide) (by decide) (fun H locs hP hD hS => ?_)
          have hP : va_P (dC, dI) classes [(bT, .inl (kT, 8, .inl mT)), (bF, .inl (kF, 8, .inr (.inl mF))), (bM, .inr (3, [.int cd, .int wd, .ref bT, .ref bF, .int al, .ref bN, .ref bP, .ref bQ, .ref bR, .int sz1, .int un, .int (b2i mo), .int tl, .int (b2i sp), .int tpo, .long fro, .int (b2i ly)])), (bP, .inl (kP, 2, .inl pw)), (bQ, .inl (kQ, 2, .inr (.inl pt)))] H := hP
          have hD : va_D A [(bT, .inl (kT, 8, .inl mT)), (bF, .inl (kF, 8, .inr (.inl mF))), (bM, .inr (3, [.int cd, .int wd, .ref bT, .ref bF, .int al, .ref bN, .ref bP, .ref bQ, .ref bR, .int sz1, .int un, .int (b2i mo), .int tl, .int (b2i sp), .int tpo, .long fro, .int (b2i ly)])), (bP, .inl (kP, 2, .inl pw)), (bQ, .inl (kQ, 2, .inr (.inl pt)))] := hD
          refine lv_if_eq (tgt := 101) hx hb d_M_noNumber_33 (by decide) (fun c_33 => ?_) (fun c_33 => ?_)
          · skip
            have c_33 : ¬ (g_M_isNone pw pt 1) = true := b2i_z c_33
            exact J101 (j13_0) H locs ls ⟨by clear hP hD hl hS; (try dsimp only); rw [if_pos c_17, if_pos c_25, if_neg c_33], hP.sub [0, 1, 2, 3, 4] rfl, hD.sub [0, 1, 2, 3, 4] (by decide) rfl, hS, lv_sub hl [1, 2, 3, 4, 0] rfl⟩
          · skip
            have c_33 : (g_M_isNone pw pt 1) = true := b2i_nz c_33
            refine lv_aload_n hx hb d_M_noNumber_36 rfl (lv_at hl 1 rfl) ?_
            refine va_get (D := (dC, dI)) (ci := 3) (v := .ref bQ) (C := R_M) (T := F_M) (N := 17) hx hb htA in_M hown hK hP 2 rfl rfl 7 (by decide) (htA _ k_256) (fun _ h9 => h9) rfl d_M_noNumber_37 ?_
            refine lv_iconst (v := 0) hx hb d_M_noNumber_40 (by decide) ?_
            refine va_lald hx hb hK hP 4 3 rfl rfl in2_0 d_M_noNumber_41 ?_
            refine lv_aload_n hx hb d_M_noNumber_42 rfl (lv_at hl 1 rfl) ?_
            refine va_get (D := (dC, dI)) (ci := 3) (v := .ref bQ) (C := R_M) (T := F_M) (N := 17) hx hb htA in_M hown hK hP 2 rfl rfl 7 (by decide) (htA _ k_256) (fun _ h9 => h9) rfl d_M_noNumber_43 ?_
            refine lv_iconst (v := 1) hx hb d_M_noNumber_46 (by decide) ?_
            refine va_lald hx hb hK hP 4 3 rfl rfl in2_1 d_M_noNumber_47 ?_
            refine W.lcmp hx hb d_M_noNumber_48 ?_
            refine lv_if_ne (tgt := 84) hx hb d_M_noNumber_49 (by decide) (fun c_49 => ?_) (fun c_49 => ?_)
            · skip
              have c_49 : ¬ (pt (0 : Int32).toNatClampNeg) = (pt (1 : Int32).toNatClampNeg) := fun h9 => c_49 ((lg_cmp_eq _ _).mpr h9)
              refine lv_aload_n hx hb d_M_noNumber_84 rfl (lv_at hl 1 rfl) ?_
              refine va_get (D := (dC, dI)) (ci := 3) (v := .ref bQ) (C := R_M) (T := F_M) (N := 17) hx hb htA in_M hown hK hP 2 rfl rfl 7 (by decide) (htA _ k_256) (fun _ h9 => h9) rfl d_M_noNumber_85 ?_
              refine lv_iconst (v := 0) hx hb d_M_noNumber_88 (by decide) ?_
              refine va_lald hx hb hK hP 4 3 rfl rfl in2_0 d_M_noNumber_89 ?_
              refine lv_aload_n hx hb d_M_noNumber_90 rfl (lv_at hl 1 rfl) ?_
              refine va_get (D := (dC, dI)) (ci := 3) (v := .ref bQ) (C := R_M) (T := F_M) (N := 17) hx hb htA in_M hown hK hP 2 rfl rfl 7 (by decide) (htA _ k_256) (fun _ h9 => h9) rfl d_M_noNumber_91 ?_
              refine lv_iconst (v := 1) hx hb d_M_noNumber_94 (by decide) ?_
              refine va_lald hx hb hK hP 4 3 rfl rfl in2_1 d_M_noNumber_95 ?_
              have hPc := hP.sub (ws' := []) [] rfl
              have hDc := hD.sub (ws' := []) [] (by decide) rfl
              have hKc := hK.sub (tys' := []) [] rfl
              have hFc := va_free (wc := []) hD hS hA [] rfl
              refine cc_i (va_runS (As := [.long (pt (0 : Int32).toNatClampNeg), .long (pt (1 : Int32).toNatClampNeg)]) (rest := []) ⟨hx, hb, hml, hown, htA⟩ (c_M_below l dC dI H.size (pt (0 : Int32).toNatClampNeg) (pt (1 : Int32).toNatClampNeg)) (va_cwS 2 htA (gi_S k_330 k_331 k_263 (gi_code k_238)) rfl rfl rfl (by decide +kernel) ⟨Nat.le_of_ble_eq_true rfl, Nat.le_of_ble_eq_true rfl⟩) (pre_S hnw hPc hKc hDc) rfl rfl hl.1 rfl (lv_room (Nat.le_of_ble_eq_true rfl)) d_M_noNumber_96 ⟨Nat.le_of_ble_eq_true rfl, Nat.le_of_ble_eq_true rfl⟩) hS hFc hP hD [] [0, 1, 2, 3, 4] (wr := [(bT, .inl (kT, 8, .inl mT)), (bF, .inl (kF, 8, .inr (.inl mF))), (bM, .inr (3, [.int cd, .int wd, .ref bT, .ref bF, .int al, .ref bN, .ref bP, .ref bQ, .ref bR, .int sz1, .int un, .int (b2i mo), .int tl, .int (b2i sp), .int tpo, .long fro, .int (b2i ly)])), (bP, .inl (kP, 2, .inl pw)), (bQ, .inl (kQ, 2, .inr (.inl pt)))]) rfl rfl (by decide) (by decide) (fun H locs hP hD hS => ?_)
              have hP : va_P (dC, dI) classes [(bT, .inl (kT, 8, .inl mT)), (bF, .inl (kF, 8, .inr (.inl mF))), (bM, .inr (3, [.int cd, .int wd, .ref bT, .ref bF, .int al, .ref bN, .ref bP, .ref bQ, .ref bR, .int sz1, .int un, .int (b2i mo), .int tl, .int (b2i sp), .int tpo, .long fro, .int (b2i ly)])), (bP, .inl (kP, 2, .inl pw)), (bQ, .inl (kQ, 2, .inr (.inl pt)))] H := hP
              have hD : va_D A [(bT, .inl (kT, 8, .inl mT)), (bF, .inl (kF, 8, .inr (.inl mF))), (bM, .inr (3, [.int cd, .int wd, .ref bT, .ref bF, .int al, .ref bN, .ref bP, .ref bQ, .ref bR, .int sz1, .int un, .int (b2i mo), .int tl, .int (b2i sp), .int tpo, .long fro, .int (b2i ly)])), (bP, .inl (kP, 2, .inl pw)), (bQ, .inl (kQ, 2, .inr (.inl pt)))] := hD
              refine lv_istore (lv' := [(4, .int (b2i (g_M_below (pt (0 : Int32).toNatClampNeg) (pt (1 : Int32).toNatClampNeg)))), (0, .ref bM), (1, .int ict), (2, .int ia), (3, .int ib)]) hx hb d_M_noNumber_99 hl (by decide) rfl (fun ls hl => ?_)
              exact J101 ((g_M_below (pt (0 : Int32).toNatClampNeg) (pt (1 : Int32).toNatClampNeg))) H locs ls ⟨by clear hP hD hl hS; (try dsimp only); rw [if_pos c_17, if_pos c_25, if_pos c_33, if_neg c_49], hP.sub [0, 1, 2, 3, 4] rfl, hD.sub [0, 1, 2, 3, 4] (by decide) rfl, hS, lv_sub hl [1, 2, 3, 4, 0] rfl⟩
            · skip
              have c_49 : (pt (0 : Int32).toNatClampNeg) = (pt (1 : Int32).toNatClampNeg) := (lg_cmp_eq _ _).mp c_49
              refine lv_aload_n hx hb d_M_noNumber_52 rfl (lv_at hl 1 rfl) ?_
              refine va_get (D := (dC, dI)) (ci := 3) (v := .ref bT) (C := R_M) (T := F_M) (N := 17) hx hb htA in_M hown hK hP 2 rfl rfl 2 (by decide) (htA _ k_266) (fun _ h9 => h9) rfl d_M_noNumber_53 ?_
              refine lv_iload_n hx hb d_M_noNumber_56 rfl (lv_at hl 3 rfl) ?_
              refine va_iald hx hb hK hP 0 0 rfl rfl ha8 d_M_noNumber_57 ?_
              refine lv_sipush (v := 32767) hx hb d_M_noNumber_58 (by decide) ?_
              refine lv_icmp_le (tgt := 80) hx hb d_M_noNumber_61 (by decide) (fun c_61 => ?_) (fun c_61 => ?_)
              · skip
                refine lv_iconst (v := 0) hx hb d_M_noNumber_80 (by decide) ?_
                refine lv_goto (tgt := 99) hx hb d_M_noNumber_81 (by decide) ?_
                refine lv_istore (lv' := [(4, .int 0), (0, .ref bM), (1, .int ict), (2, .int ia), (3, .int ib)]) hx hb d_M_noNumber_99 hl (by decide) rfl (fun ls hl => ?_)
                exact J101 (false) H locs ls ⟨by clear hP hD hl hS; (try dsimp only); rw [if_pos c_17, if_pos c_25, if_pos c_33, if_pos c_49, if_pos c_61], hP.sub [0, 1, 2, 3, 4] rfl, hD.sub [0, 1, 2, 3, 4] (by decide) rfl, hS, lv_sub hl [1, 2, 3, 4, 0] rfl⟩
              · skip
                refine lv_aload_n hx hb d_M_noNumber_64 rfl (lv_at hl 1 rfl) ?_
                refine va_get (D := (dC, dI)) (ci := 3) (v := .ref bT) (C := R_M) (T := F_M) (N := 17) hx hb htA in_M hown hK hP 2 rfl rfl 2 (by decide) (htA _ k_266) (fun _ h9 => h9) rfl d_M_noNumber_65 ?_
                refine lv_iload_n hx hb d_M_noNumber_68 rfl (lv_at hl 4 rfl) ?_
                refine va_iald hx hb hK hP 0 0 rfl rfl hb8 d_M_noNumber_69 ?_
                refine lv_sipush (v := 32767) hx hb d_M_noNumber_70 (by decide) ?_
                refine lv_icmp_gt (tgt := 80) hx hb d_M_noNumber_73 (by decide) (fun c_73 => ?_) (fun c_73 => ?_)
                · skip
                  refine lv_iconst (v := 0) hx hb d_M_noNumber_80 (by decide) ?_
                  refine lv_goto (tgt := 99) hx hb d_M_noNumber_81 (by decide) ?_
                  refine lv_istore (lv' := [(4, .int 0), (0, .ref bM), (1, .int ict), (2, .int ia), (3, .int ib)]) hx hb d_M_noNumber_99 hl (by decide) rfl (fun ls hl => ?_)
                  exact J101 (false) H locs ls ⟨by clear hP hD hl hS; (try dsimp only); rw [if_pos c_17, if_pos c_25, if_pos c_33, if_pos c_49, if_neg c_61, if_pos c_73], hP.sub [0, 1, 2, 3, 4] rfl, hD.sub [0, 1, 2, 3, 4] (by decide) rfl, hS, lv_sub hl [1, 2, 3, 4, 0] rfl⟩
                · skip
                  refine lv_iconst (v := 1) hx hb d_M_noNumber_76 (by decide) ?_
                  refine lv_goto (tgt := 99) hx hb d_M_noNumber_77 (by decide) ?_
                  refine lv_istore (lv' := [(4, .int 1), (0, .ref bM), (1, .int ict), (2, .int ia), (3, .int ib)]) hx hb d_M_noNumber_99 hl (by decide) rfl (fun ls hl => ?_)
                  exact J101 (true) H locs ls ⟨by clear hP hD hl hS; (try dsimp only); rw [if_pos c_17, if_pos c_25, if_pos c_33, if_pos c_49, if_neg c_61, if_neg c_73], hP.sub [0, 1, 2, 3, 4] rfl, hD.sub [0, 1, 2, 3, 4] (by decide) rfl, hS, lv_sub hl [1, 2, 3, 4, 0] rfl⟩
  · skip
    refine lv_if_ne (tgt := 12) hx hb d_M_noNumber_5 (by decide) (fun c_5 => ?_) (fun c_5 => ?_)
    · skip
      have c_5 : (g_M_isNone pw pt 0) = true := b2i_nz c_5
      refine lv_iconst (v := 0) hx hb d_M_noNumber_12 (by decide) ?_
      exact J13 (false) H locs ls ⟨by clear hP hD hl hS; (try dsimp only); rw [if_pos c_5], hP.sub [0, 1, 2, 3, 4] rfl, hD.sub [0, 1, 2, 3, 4] (by decide) rfl, hS, lv_sub hl [0, 1, 2, 3] rfl⟩
    · skip
      have c_5 : ¬ (g_M_isNone pw pt 0) = true := b2i_z c_5
      refine lv_iconst (v := 1) hx hb d_M_noNumber_8 (by decide) ?_
      refine lv_goto (tgt := 13) hx hb d_M_noNumber_9 (by decide) ?_
      exact J13 (true) H locs ls ⟨by clear hP hD hl hS; (try dsimp only); rw [if_neg c_5], hP.sub [0, 1, 2, 3, 4] rfl, hD.sub [0, 1, 2, 3, 4] (by decide) rfl, hS, lv_sub hl [0, 1, 2, 3] rfl⟩
theorem d_M_isWrong_0 : decode b_M_isWrong 0 = .ok (.aload_n 0, 1) := by decide +kernel
theorem d_M_isWrong_1 : decode b_M_isWrong 1 = .ok (.getfield 7, 3) := by decide +kernel
theorem d_M_isWrong_4 : decode b_M_isWrong 4 = .ok (.sipush 4096, 3) := by decide +kernel
theorem d_M_isWrong_7 : decode b_M_isWrong 7 = .ok (.iand, 1) := by decide +kernel
theorem d_M_isWrong_8 : decode b_M_isWrong 8 = .ok (.ifCond .ne 7, 3) := by decide +kernel
theorem d_M_isWrong_15 : decode b_M_isWrong 15 = .ok (.iconst 0, 1) := by decide +kernel
theorem d_M_isWrong_11 : decode b_M_isWrong 11 = .ok (.iconst 1, 1) := by decide +kernel
theorem d_M_isWrong_12 : decode b_M_isWrong 12 = .ok (.goto 4, 3) := by decide +kernel
theorem d_M_isWrong_16 : decode b_M_isWrong 16 = .ok (.istore_n 2, 1) := by decide +kernel
theorem d_M_isWrong_17 : decode b_M_isWrong 17 = .ok (.iload_n 1, 1) := by decide +kernel
theorem d_M_isWrong_18 : decode b_M_isWrong 18 = .ok (.bipush 6, 2) := by decide +kernel
theorem d_M_isWrong_20 : decode b_M_isWrong 20 = .ok (.if_icmp .ne 46, 3) := by decide +kernel
theorem d_M_isWrong_66 : decode b_M_isWrong 66 = .ok (.iload_n 1, 1) := by decide +kernel
theorem d_M_isWrong_67 : decode b_M_isWrong 67 = .ok (.iconst 3, 1) := by decide +kernel
theorem d_M_isWrong_68 : decode b_M_isWrong 68 = .ok (.if_icmp .ge 44, 3) := by decide +kernel
theorem d_M_isWrong_112 : decode b_M_isWrong 112 = .ok (.iload_n 1, 1) := by decide +kernel
theorem d_M_isWrong_113 : decode b_M_isWrong 113 = .ok (.iconst 3, 1) := by decide +kernel
theorem d_M_isWrong_114 : decode b_M_isWrong 114 = .ok (.if_icmp .ne 41, 3) := by decide +kernel
theorem d_M_isWrong_155 : decode b_M_isWrong 155 = .ok (.aload_n 0, 1) := by decide +kernel
theorem d_M_isWrong_156 : decode b_M_isWrong 156 = .ok (.iconst 0, 1) := by decide +kernel
theorem d_M_isWrong_157 : decode b_M_isWrong 157 = .ok (.invokevirtual 142, 3) := by decide +kernel
theorem d_M_isWrong_160 : decode b_M_isWrong 160 = .ok (.ifCond .eq 11, 3) := by decide +kernel
theorem d_M_isWrong_171 : decode b_M_isWrong 171 = .ok (.aload_n 0, 1) := by decide +kernel
theorem d_M_isWrong_172 : decode b_M_isWrong 172 = .ok (.iconst 0, 1) := by decide +kernel
theorem d_M_isWrong_173 : decode b_M_isWrong 173 = .ok (.invokevirtual 126, 3) := by decide +kernel
theorem d_M_isWrong_176 : decode b_M_isWrong 176 = .ok (.ifCond .eq 11, 3) := by decide +kernel
theorem d_M_isWrong_187 : decode b_M_isWrong 187 = .ok (.aload_n 0, 1) := by decide +kernel
theorem d_M_isWrong_188 : decode b_M_isWrong 188 = .ok (.iconst 1, 1) := by decide +kernel
theorem d_M_isWrong_189 : decode b_M_isWrong 189 = .ok (.invokevirtual 139, 3) := by decide +kernel
theorem d_M_isWrong_192 : decode b_M_isWrong 192 = .ok (.ifCond .eq 7, 3) := by decide +kernel
theorem d_M_isWrong_199 : decode b_M_isWrong 199 = .ok (.iconst 0, 1) := by decide +kernel
theorem d_M_isWrong_200 : decode b_M_isWrong 200 = .ok (.ireturn, 1) := by decide +kernel
theorem d_M_isWrong_195 : decode b_M_isWrong 195 = .ok (.iconst 1, 1) := by decide +kernel
theorem d_M_isWrong_196 : decode b_M_isWrong 196 = .ok (.goto 4, 3) := by decide +kernel
theorem d_M_isWrong_179 : decode b_M_isWrong 179 = .ok (.aload_n 0, 1) := by decide +kernel
theorem d_M_isWrong_180 : decode b_M_isWrong 180 = .ok (.iconst 1, 1) := by decide +kernel
theorem d_M_isWrong_181 : decode b_M_isWrong 181 = .ok (.invokevirtual 126, 3) := by decide +kernel
theorem d_M_isWrong_184 : decode b_M_isWrong 184 = .ok (.ifCond .ne 11, 3) := by decide +kernel
theorem d_M_isWrong_163 : decode b_M_isWrong 163 = .ok (.aload_n 0, 1) := by decide +kernel
theorem d_M_isWrong_164 : decode b_M_isWrong 164 = .ok (.iconst 1, 1) := by decide +kernel
theorem d_M_isWrong_165 : decode b_M_isWrong 165 = .ok (.invokevirtual 142, 3) := by decide +kernel
theorem d_M_isWrong_168 : decode b_M_isWrong 168 = .ok (.ifCond .ne 27, 3) := by decide +kernel
theorem d_M_isWrong_117 : decode b_M_isWrong 117 = .ok (.aload_n 0, 1) := by decide +kernel
theorem d_M_isWrong_118 : decode b_M_isWrong 118 = .ok (.iconst 0, 1) := by decide +kernel
theorem d_M_isWrong_119 : decode b_M_isWrong 119 = .ok (.invokevirtual 142, 3) := by decide +kernel
theorem d_M_isWrong_122 : decode b_M_isWrong 122 = .ok (.ifCond .eq 11, 3) := by decide +kernel
theorem d_M_isWrong_133 : decode b_M_isWrong 133 = .ok (.aload_n 0, 1) := by decide +kernel
theorem d_M_isWrong_134 : decode b_M_isWrong 134 = .ok (.iconst 0, 1) := by decide +kernel
theorem d_M_isWrong_135 : decode b_M_isWrong 135 = .ok (.invokevirtual 126, 3) := by decide +kernel
theorem d_M_isWrong_138 : decode b_M_isWrong 138 = .ok (.ifCond .eq 15, 3) := by decide +kernel
theorem d_M_isWrong_153 : decode b_M_isWrong 153 = .ok (.iconst 0, 1) := by decide +kernel
theorem d_M_isWrong_154 : decode b_M_isWrong 154 = .ok (.ireturn, 1) := by decide +kernel
theorem d_M_isWrong_141 : decode b_M_isWrong 141 = .ok (.aload_n 0, 1) := by decide +kernel
theorem d_M_isWrong_142 : decode b_M_isWrong 142 = .ok (.iconst 1, 1) := by decide +kernel
theorem d_M_isWrong_143 : decode b_M_isWrong 143 = .ok (.invokevirtual 142, 3) := by decide +kernel
theorem d_M_isWrong_146 : decode b_M_isWrong 146 = .ok (.ifCond .eq 7, 3) := by decide +kernel
theorem d_M_isWrong_149 : decode b_M_isWrong 149 = .ok (.iconst 1, 1) := by decide +kernel
theorem d_M_isWrong_150 : decode b_M_isWrong 150 = .ok (.goto 4, 3) := by decide +kernel
theorem d_M_isWrong_125 : decode b_M_isWrong 125 = .ok (.aload_n 0, 1) := by decide +kernel
theorem d_M_isWrong_126 : decode b_M_isWrong 126 = .ok (.iconst 1, 1) := by decide +kernel
theorem d_M_isWrong_127 : decode b_M_isWrong 127 = .ok (.invokevirtual 126, 3) := by decide +kernel
theorem d_M_isWrong_130 : decode b_M_isWrong 130 = .ok (.ifCond .ne 19, 3) := by decide +kernel
theorem d_M_isWrong_71 : decode b_M_isWrong 71 = .ok (.aload_n 0, 1) := by decide +kernel
theorem d_M_isWrong_72 : decode b_M_isWrong 72 = .ok (.iconst 0, 1) := by decide +kernel
theorem d_M_isWrong_73 : decode b_M_isWrong 73 = .ok (.invokevirtual 142, 3) := by decide +kernel
theorem d_M_isWrong_76 : decode b_M_isWrong 76 = .ok (.ifCond .eq 34, 3) := by decide +kernel
theorem d_M_isWrong_110 : decode b_M_isWrong 110 = .ok (.iconst 0, 1) := by decide +kernel
theorem d_M_isWrong_111 : decode b_M_isWrong 111 = .ok (.ireturn, 1) := by decide +kernel
theorem d_M_isWrong_79 : decode b_M_isWrong 79 = .ok (.aload_n 0, 1) := by decide +kernel
theorem d_M_isWrong_80 : decode b_M_isWrong 80 = .ok (.iconst 1, 1) := by decide +kernel
theorem d_M_isWrong_81 : decode b_M_isWrong 81 = .ok (.invokevirtual 142, 3) := by decide +kernel
theorem d_M_isWrong_84 : decode b_M_isWrong 84 = .ok (.ifCond .eq 26, 3) := by decide +kernel
theorem d_M_isWrong_87 : decode b_M_isWrong 87 = .ok (.iload_n 2, 1) := by decide +kernel
theorem d_M_isWrong_88 : decode b_M_isWrong 88 = .ok (.ifCond .ne 18, 3) := by decide +kernel
theorem d_M_isWrong_106 : decode b_M_isWrong 106 = .ok (.iconst 1, 1) := by decide +kernel
theorem d_M_isWrong_107 : decode b_M_isWrong 107 = .ok (.goto 4, 3) := by decide +kernel
theorem d_M_isWrong_91 : decode b_M_isWrong 91 = .ok (.aload_n 0, 1) := by decide +kernel
theorem d_M_isWrong_92 : decode b_M_isWrong 92 = .ok (.getfield 21, 3) := by decide +kernel
theorem d_M_isWrong_95 : decode b_M_isWrong 95 = .ok (.iconst 0, 1) := by decide +kernel
theorem d_M_isWrong_96 : decode b_M_isWrong 96 = .ok (.baload, 1) := by decide +kernel
theorem d_M_isWrong_97 : decode b_M_isWrong 97 = .ok (.aload_n 0, 1) := by decide +kernel
theorem d_M_isWrong_98 : decode b_M_isWrong 98 = .ok (.getfield 21, 3) := by decide +kernel
theorem d_M_isWrong_101 : decode b_M_isWrong 101 = .ok (.iconst 1, 1) := by decide +kernel
theorem d_M_isWrong_102 : decode b_M_isWrong 102 = .ok (.baload, 1) := by decide +kernel
theorem d_M_isWrong_103 : decode b_M_isWrong 103 = .ok (.if_icmp .eq 7, 3) := by decide +kernel
theorem d_M_isWrong_23 : decode b_M_isWrong 23 = .ok (.aload_n 0, 1) := by decide +kernel
theorem d_M_isWrong_24 : decode b_M_isWrong 24 = .ok (.getfield 21, 3) := by decide +kernel
theorem d_M_isWrong_27 : decode b_M_isWrong 27 = .ok (.iconst 0, 1) := by decide +kernel
theorem d_M_isWrong_28 : decode b_M_isWrong 28 = .ok (.baload, 1) := by decide +kernel
theorem d_M_isWrong_29 : decode b_M_isWrong 29 = .ok (.ifCond .eq 11, 3) := by decide +kernel
theorem d_M_isWrong_40 : decode b_M_isWrong 40 = .ok (.aload_n 0, 1) := by decide +kernel
theorem d_M_isWrong_41 : decode b_M_isWrong 41 = .ok (.iconst 0, 1) := by decide +kernel
theorem d_M_isWrong_42 : decode b_M_isWrong 42 = .ok (.invokevirtual 139, 3) := by decide +kernel
theorem d_M_isWrong_45 : decode b_M_isWrong 45 = .ok (.ifCond .ne 15, 3) := by decide +kernel
theorem d_M_isWrong_60 : decode b_M_isWrong 60 = .ok (.iconst 1, 1) := by decide +kernel
theorem d_M_isWrong_61 : decode b_M_isWrong 61 = .ok (.goto 4, 3) := by decide +kernel
theorem d_M_isWrong_65 : decode b_M_isWrong 65 = .ok (.ireturn, 1) := by decide +kernel
theorem d_M_isWrong_48 : decode b_M_isWrong 48 = .ok (.aload_n 0, 1) := by decide +kernel
theorem d_M_isWrong_49 : decode b_M_isWrong 49 = .ok (.iconst 0, 1) := by decide +kernel
theorem d_M_isWrong_50 : decode b_M_isWrong 50 = .ok (.invokevirtual 142, 3) := by decide +kernel
theorem d_M_isWrong_53 : decode b_M_isWrong 53 = .ok (.ifCond .eq 11, 3) := by decide +kernel
theorem d_M_isWrong_64 : decode b_M_isWrong 64 = .ok (.iconst 0, 1) := by decide +kernel
theorem d_M_isWrong_56 : decode b_M_isWrong 56 = .ok (.iload_n 2, 1) := by decide +kernel
theorem d_M_isWrong_57 : decode b_M_isWrong 57 = .ok (.ifCond .eq 7, 3) := by decide +kernel
theorem d_M_isWrong_32 : decode b_M_isWrong 32 = .ok (.aload_n 0, 1) := by decide +kernel
theorem d_M_isWrong_33 : decode b_M_isWrong 33 = .ok (.iconst 0, 1) := by decide +kernel
theorem d_M_isWrong_34 : decode b_M_isWrong 34 = .ok (.invokevirtual 126, 3) := by decide +kernel
theorem d_M_isWrong_37 : decode b_M_isWrong 37 = .ok (.ifCond .eq 23, 3) := by decide +kernel
set_option maxHeartbeats 4000000 in
set_option maxRecDepth 100000 in
theorem c_M_isWrong (l : Launch) (dC : Nat → ClassId) (dI : Nat → Nat → Nat) (kN : ClassId) (kP : ClassId) (kQ : ClassId) (bM : Nat) (bN : Nat) (bP : Nat) (bQ : Nat) (bT : Nat) (bF : Nat) (bR : Nat) (sz : Nat) (cd : Int32) (wd : Int32) (al : Int32) (sz1 : Int32) (un : Int32) (mo : Bool) (tl : Int32) (sp : Bool) (tpo : Int32) (fro : Int64) (ly : Bool) (mi : Nat → Bool) (pw : Nat → Int32) (pt : Nat → Int64) (iop : Int32) : Met l y_M_isWrong w_M_isWrong ({ frames := 1, cells := 0, slots := 0, locals := 21 }) (cPc (dC, dI) [(kN, .boolean), (kP, .int), (kQ, .long)] [.ref bM, .int iop] [(bM, .inr (3, [.int cd, .int wd, .ref bT, .ref bF, .int al, .ref bN, .ref bP, .ref bQ, .ref bR, .int sz1, .int un, .int (b2i mo), .int tl, .int (b2i sp), .int tpo, .long fro, .int (b2i ly)])), (bN, .inl (kN, 2, .inl (fun k => b2i (mi k)))), (bP, .inl (kP, 2, .inl pw)), (bQ, .inl (kQ, 2, .inr (.inl pt)))] sz) (va_Qi (fun (r : Int32) (_ : Unit) => r = b2i ((g_M_isWrong wd mi pw pt iop))) (fun _ t => va_P (dC, dI) classes [(bM, .inr (3, [.int cd, .int wd, .ref bT, .ref bF, .int al, .ref bN, .ref bP, .ref bQ, .ref bR, .int sz1, .int un, .int (b2i mo), .int tl, .int (b2i sp), .int tpo, .long fro, .int (b2i ly)])), (bN, .inl (kN, 2, .inl (fun k => b2i (mi k)))), (bP, .inl (kP, 2, .inl pw)), (bQ, .inl (kQ, 2, .inr (.inl pt)))] t.heap ∧ va_D (va_A [(bM, .inr (3, [.int cd, .int wd, .ref bT, .ref bF, .int al, .ref bN, .ref bP, .ref bQ, .ref bR, .int sz1, .int un, .int (b2i mo), .int tl, .int (b2i sp), .int tpo, .long fro, .int (b2i ly)])), (bN, .inl (kN, 2, .inl (fun k => b2i (mi k)))), (bP, .inl (kP, 2, .inl pw)), (bQ, .inl (kQ, 2, .inr (.inl pt)))] sz) [(bM, .inr (3, [.int cd, .int wd, .ref bT, .ref bF, .int al, .ref bN, .ref bP, .ref bQ, .ref bR, .int sz1, .int un, .int (b2i mo), .int tl, .int (b2i sp), .int tpo, .long fro, .int (b2i ly)])), (bN, .inl (kN, 2, .inl (fun k => b2i (mi k)))), (bP, .inl (kP, 2, .inl pw)), (bQ, .inl (kQ, 2, .inr (.inl pt)))]) (va_A [(bM, .inr (3, [.int cd, .int wd, .ref bT, .ref bF, .int al, .ref bN, .ref bP, .ref bQ, .ref bR, .int sz1, .int un, .int (b2i mo), .int tl, .int (b2i sp), .int tpo, .long fro, .int (b2i ly)])), (bN, .inl (kN, 2, .inl (fun k => b2i (mi k)))), (bP, .inl (kP, 2, .inl pw)), (bQ, .inl (kQ, 2, .inr (.inl pt)))] sz)) 0 0 (va_A [(bM, .inr (3, [.int cd, .int wd, .ref bT, .ref bF, .int al, .ref bN, .ref bP, .ref bQ, .ref bR, .int sz1, .int un, .int (b2i mo), .int tl, .int (b2i sp), .int tpo, .long fro, .int (b2i ly)])), (bN, .inl (kN, 2, .inl (fun k => b2i (mi k)))), (bP, .inl (kP, 2, .inl pw)), (bQ, .inl (kQ, 2, .inr (.inl pt)))] sz) := by
  refine Met.ofW (cc := b_M_isWrong) (maxL := 3) (ret := (some .boolean)) (by decide) rfl ?_
  intro p e s m args below meth c s₁ B hml hv
  obtain ⟨rfl, hsz, hP, hK, hD0, hnw⟩ := hv
  have hx := B.exec
  have hb := B.bytes
  have hr := B.returns
  have hts := atoms_spec (ws := w_M_isWrong) B.pre
  have htA : ∀ w ∈ wAll, w.before _ s = true := fun w h => hts w (List.mem_cons_of_mem _ h)
  have hown : s.vm.findClass R_M = some m.cls := findClass_of_methodNamed B.named
  have hlocks := B.notSynchronized
  subst hsz
  have hD := hD0.self (sz := s.heap.size)
  generalize hAe : va_A [(bM, .inr (3, [.int cd, .int wd, .ref bT, .ref bF, .int al, .ref bN, .ref bP, .ref bQ, .ref bR, .int sz1, .int un, .int (b2i mo), .int tl, .int (b2i sp), .int tpo, .long fro, .int (b2i ly)])), (bN, .inl (kN, 2, .inl (fun k => b2i (mi k)))), (bP, .inl (kP, 2, .inl pw)), (bQ, .inl (kQ, 2, .inr (.inl pt)))] s.heap.size = A at hD ⊢
  have hA : ∀ q : Nat, s.heap.size ≤ q → A q := fun q h => by rw [← hAe]; exact Or.inr h
  have hS : va_S A s.heap s.heap [] := va_S.rf
  have hP : va_P (dC, dI) classes [(bM, .inr (3, [.int cd, .int wd, .ref bT, .ref bF, .int al, .ref bN, .ref bP, .ref bQ, .ref bR, .int sz1, .int un, .int (b2i mo), .int tl, .int (b2i sp), .int tpo, .long fro, .int (b2i ly)])), (bN, .inl (kN, 2, .inl (fun k => b2i (mi k)))), (bP, .inl (kP, 2, .inl pw)), (bQ, .inl (kQ, 2, .inr (.inl pt)))] s.heap := hP
  obtain ⟨H, eH⟩ : ∃ z, z = s.heap := ⟨_, rfl⟩
  rw [← eH] at hP
  have hS : va_S A s.heap H [] := by rw [eH]; exact hS
  rw [← eH]
  generalize ([] : List Loc) = locs at hS ⊢
  have hl := lv_entry ([.ref bM, .int iop]) (n := 3) (Nat.le_of_ble_eq_true rfl)
  rw [lg_entry_eq]
  generalize (lg_sl ([.ref bM, .int iop]) ++ List.replicate (3 - (lg_sl ([.ref bM, .int iop])).length) Slot.unset).toArray = ls at hl ⊢
  have hl : lv_has ls 3 [(0, .ref bM), (1, .int iop)] := hl
  refine lv_aload_n hx hb d_M_isWrong_0 rfl (lv_at hl 0 rfl) ?_
  refine va_get (D := (dC, dI)) (ci := 3) (v := .int wd) (C := R_M) (T := F_M) (N := 17) hx hb htA in_M hown hK hP 0 rfl rfl 1 (by decide) (htA _ k_244) (fun _ h9 => h9) rfl d_M_isWrong_1 ?_
  refine lv_sipush (v := 4096) hx hb d_M_isWrong_4 (by decide) ?_
  refine lv_iand hx hb d_M_isWrong_7 ?_
  refine cut_join (X := Bool) 0 0 (fun (x : Bool) (H : Heap) (locs : List Loc) (ls : Array Slot) => (if (wd &&& 4096) = 0 then true else false) = x ∧ va_P (dC, dI) classes [(bM, .inr (3, [.int cd, .int wd, .ref bT, .ref bF, .int al, .ref bN, .ref bP, .ref bQ, .ref bR, .int sz1, .int un, .int (b2i mo), .int tl, .int (b2i sp), .int tpo, .long fro, .int (b2i ly)])), (bN, .inl (kN, 2, .inl (fun k => b2i (mi k)))), (bP, .inl (kP, 2, .inl pw)), (bQ, .inl (kQ, 2, .inr (.inl pt)))] H ∧ va_D A [(bM, .inr (3, [.int cd, .int wd, .ref bT, .ref bF, .int al, .ref bN, .ref bP, .ref bQ, .ref bR, .int sz1, .int un, .int (b2i mo), .int tl, .int (b2i sp), .int tpo, .long fro, .int (b2i ly)])), (bN, .inl (kN, 2, .inl (fun k => b2i (mi k)))), (bP, .inl (kP, 2, .inl pw)), (bQ, .inl (kQ, 2, .inr (.inl pt)))] ∧ va_S A s.heap H locs ∧ lv_has ls 3 [(0, .ref bM), (1, .int iop)]) (fun x ls => F0 m 16 ls [.int (b2i x)]) ?_ (fun J16 => ?_)
  · skip
    rintro j16_0 H locs ls ⟨ej16_0, hP, hD, hS, hl⟩
    have ej16_0 : (if (wd &&& 4096) = 0 then true else false) = j16_0 := ej16_0
    have hP : va_P (dC, dI) classes [(bM, .inr (3, [.int cd, .int wd, .ref bT, .ref bF, .int al, .ref bN, .ref bP, .ref bQ, .ref bR, .int sz1, .int un, .int (b2i mo), .int tl, .int (b2i sp), .int tpo, .long fro, .int (b2i ly)])), (bN, .inl (kN, 2, .inl (fun k => b2i (mi k)))), (bP, .inl (kP, 2, .inl pw)), (bQ, .inl (kQ, 2, .inr (.inl pt)))] H := hP
    have hD : va_D A [(bM, .inr (3, [.int cd, .int wd, .ref bT, .ref bF, .int al, .ref bN, .ref bP, .ref bQ, .ref bR, .int sz1, .int un, .int (b2i mo), .int tl, .int (b2i sp), .int tpo, .long fro, .int (b2i ly)])), (bN, .inl (kN, 2, .inl (fun k => b2i (mi k)))), (bP, .inl (kP, 2, .inl pw)), (bQ, .inl (kQ, 2, .inr (.inl pt)))] := hD
    have hl : lv_has ls 3 [(0, .ref bM), (1, .int iop)] := hl
    refine lv_istore_n (lv' := [(2, .int (b2i j16_0)), (0, .ref bM), (1, .int iop)]) hx hb d_M_isWrong_16 rfl hl (by decide) rfl (fun ls hl => ?_)
    refine lv_iload_n hx hb d_M_isWrong_17 rfl (lv_at hl 2 rfl) ?_
    refine lv_bipush (v := 6) hx hb d_M_isWrong_18 (by decide) ?_
    refine lv_icmp_ne (tgt := 66) hx hb d_M_isWrong_20 (by decide) (fun c_20 => ?_) (fun c_20 => ?_)
    · skip
      refine lv_iload_n hx hb d_M_isWrong_66 rfl (lv_at hl 2 rfl) ?_
      refine lv_iconst (v := 3) hx hb d_M_isWrong_67 (by decide) ?_
      refine lv_icmp_ge (tgt := 112) hx hb d_M_isWrong_68 (by decide) (fun c_68 => ?_) (fun c_68 => ?_)
      · skip
        refine lv_iload_n hx hb d_M_isWrong_112 rfl (lv_at hl 2 rfl) ?_
        refine lv_iconst (v := 3) hx hb d_M_isWrong_113 (by decide) ?_
        refine lv_icmp_ne (tgt := 155) hx hb d_M_isWrong_114 (by decide) (fun c_114 => ?_) (fun c_114 => ?_)
        · skip
          refine lv_aload_n hx hb d_M_isWrong_155 rfl (lv_at hl 1 rfl) ?_
          refine lv_iconst (v := 0) hx hb d_M_isWrong_156 (by decide) ?_
          have hPc := hP.sub (ws' := [(bM, .inr (3, [.int cd, .int wd, .ref bT, .ref bF, .int al, .ref bN, .ref bP, .ref bQ, .ref bR, .int sz1, .int un, .int (b2i mo), .int tl, .int (b2i sp), .int tpo, .long fro, .int (b2i ly)])), (bP, .inl (kP, 2, .inl pw)), (bQ, .inl (kQ, 2, .inr (.inl pt)))]) [0, 2, 3] rfl
          have hDc := hD.sub (ws' := [(bM, .inr (3, [.int cd, .int wd, .ref bT, .ref bF, .int al, .ref bN, .ref bP, .ref bQ, .ref bR, .int sz1, .int un, .int (b2i mo), .int tl, .int (b2i sp), .int tpo, .long fro, .int (b2i ly)])), (bP, .inl (kP, 2, .inl pw)), (bQ, .inl (kQ, 2, .inr (.inl pt)))]) [0, 2, 3] (by decide) rfl
          have hKc := hK.sub (tys' := [(kP, .int), (kQ, .long)]) [1, 2] rfl
          have hFc := va_free (wc := [(bM, .inr (3, [.int cd, .int wd, .ref bT, .ref bF, .int al, .ref bN, .ref bP, .ref bQ, .ref bR, .int sz1, .int un, .int (b2i mo), .int tl, .int (b2i sp), .int tpo, .long fro, .int (b2i ly)])), (bP, .inl (kP, 2, .inl pw)), (bQ, .inl (kQ, 2, .inr (.inl pt)))]) hD hS hA [0, 2, 3] rfl
          refine cc_i (va_runV (As := [.int 0]) (rest := []) ⟨hx, hb, hml, hown, htA⟩ (c_M_isEndless l dC dI kP kQ bM bP bQ bT bF bN bR H.size cd wd al sz1 un mo tl sp tpo fro ly pw pt 0 in2_0) (cwV 1 htA (gi_V k_342 k_343 k_344 k_263 (gi_code k_258)) rfl rfl rfl (by decide +kernel) ⟨Nat.le_of_ble_eq_true rfl, Nat.le_of_ble_eq_true rfl⟩) (pre_V hnw hPc hKc hDc (ci := 3) (q0 := 0) rfl rfl) rfl rfl hl.1 rfl (lv_room (Nat.le_of_ble_eq_true rfl)) d_M_isWrong_157 ⟨Nat.le_of_ble_eq_true rfl, Nat.le_of_ble_eq_true rfl⟩) hS hFc hP hD [0, 2, 3] [1] (wr := [(bN, .inl (kN, 2, .inl (fun k => b2i (mi k))))]) rfl rfl (by decide) (by decide) (fun H locs hP hD hS => ?_)
          have hP : va_P (dC, dI) classes [(bN, .inl (kN, 2, .inl (fun k => b2i (mi k)))), (bM, .inr (3, [.int cd, .int wd, .ref bT, .ref bF, .int al, .ref bN, .ref bP, .ref bQ, .ref bR, .int sz1, .int un, .int (b2i mo), .int tl, .int (b2i sp), .int tpo, .long fro, .int (b2i ly)])), (bP, .inl (kP, 2, .inl pw)), (bQ, .inl (kQ, 2, .inr (.inl pt)))] H := hP
          have hD : va_D A [(bN, .inl (kN, 2, .inl (fun k => b2i (mi k)))), (bM, .inr (3, [.int cd, .int wd, .ref bT, .ref bF, .int al, .ref bN, .ref bP, .ref bQ, .ref bR, .int sz1, .int un, .int (b2i mo), .int tl, .int (b2i sp), .int tpo, .long fro, .int (b2i ly)])), (bP, .inl (kP, 2, .inl pw)), (bQ, .inl (kQ, 2, .inr (.inl pt)))] := hD
          refine lv_if_eq (tgt := 171) hx hb d_M_isWrong_160 (by decide) (fun c_160 => ?_) (fun c_160 => ?_)
          · skip
            have c_160 : ¬ (g_M_isEndless pw pt 0) = true := b2i_z c_160
            refine lv_aload_n hx hb d_M_isWrong_171 rfl (lv_at hl 1 rfl) ?_
            refine lv_iconst (v := 0) hx hb d_M_isWrong_172 (by decide) ?_
            have hPc := hP.sub (ws' := [(bM, .inr (3, [.int cd, .int wd, .ref bT, .ref bF, .int al, .ref bN, .ref bP, .ref bQ, .ref bR, .int sz1, .int un, .int (b2i mo), .int tl, .int (b2i sp), .int tpo, .long fro, .int (b2i ly)])), (bP, .inl (kP, 2, .inl pw)), (bQ, .inl (kQ, 2, .inr (.inl pt)))]) [1, 2, 3] rfl
            have hDc := hD.sub (ws' := [(bM, .inr (3, [.int cd, .int wd, .ref bT, .ref bF, .int al, .ref bN, .ref bP, .ref bQ, .ref bR, .int sz1, .int un, .int (b2i mo), .int tl, .int (b2i sp), .int tpo, .long fro, .int (b2i ly)])), (bP, .inl (kP, 2, .inl pw)), (bQ, .inl (kQ, 2, .inr (.inl pt)))]) [1, 2, 3] (by decide) rfl
            have hKc := hK.sub (tys' := [(kP, .int), (kQ, .long)]) [1, 2] rfl
            have hFc := va_free (wc := [(bM, .inr (3, [.int cd, .int wd, .ref bT, .ref bF, .int al, .ref bN, .ref bP, .ref bQ, .ref bR, .int sz1, .int un, .int (b2i mo), .int tl, .int (b2i sp), .int tpo, .long fro, .int (b2i ly)])), (bP, .inl (kP, 2, .inl pw)), (bQ, .inl (kQ, 2, .inr (.inl pt)))]) hD hS hA [1, 2, 3] rfl
            refine cc_i (va_runV (As := [.int 0]) (rest := []) ⟨hx, hb, hml, hown, htA⟩ (c_M_isNothing l dC dI kP kQ bM bP bQ bT bF bN bR H.size cd wd al sz1 un mo tl sp tpo fro ly pw pt 0 in2_0) (cwV 1 htA (gi_V k_322 k_323 k_324 k_263 (gi_code k_259)) rfl rfl rfl (by decide +kernel) ⟨Nat.le_of_ble_eq_true rfl, Nat.le_of_ble_eq_true rfl⟩) (pre_V hnw hPc hKc hDc (ci := 3) (q0 := 0) rfl rfl) rfl rfl hl.1 rfl (lv_room (Nat.le_of_ble_eq_true rfl)) d_M_isWrong_173 ⟨Nat.le_of_ble_eq_true rfl, Nat.le_of_ble_eq_true rfl⟩) hS hFc hP hD [1, 2, 3] [0] (wr := [(bN, .inl (kN, 2, .inl (fun k => b2i (mi k))))]) rfl rfl (by decide) (by decide) (fun H locs hP hD hS => ?_)
            have hP : va_P (dC, dI) classes [(bN, .inl (kN, 2, .inl (fun k => b2i (mi k)))), (bM, .inr (3, [.int cd, .int wd, .ref bT, .ref bF, .int al, .ref bN, .ref bP, .ref bQ, .ref bR, .int sz1, .int un, .int (b2i mo), .int tl, .int (b2i sp), .int tpo, .long fro, .int (b2i ly)])), (bP, .inl (kP, 2, .inl pw)), (bQ, .inl (kQ, 2, .inr (.inl pt)))] H := hP
            have hD : va_D A [(bN, .inl (kN, 2, .inl (fun k => b2i (mi k)))), (bM, .inr (3, [.int cd, .int wd, .ref bT, .ref bF, .int al, .ref bN, .ref bP, .ref bQ, .ref bR, .int sz1, .int un, .int (b2i mo), .int tl, .int (b2i sp), .int tpo, .long fro, .int (b2i ly)])), (bP, .inl (kP, 2, .inl pw)), (bQ, .inl (kQ, 2, .inr (.inl pt)))] := hD
            refine lv_if_eq (tgt := 187) hx hb d_M_isWrong_176 (by decide) (fun c_176 => ?_) (fun c_176 => ?_)
            · skip
              have c_176 : ¬ (g_M_isNothing pw pt 0) = true := b2i_z c_176
              refine lv_aload_n hx hb d_M_isWrong_187 rfl (lv_at hl 1 rfl) ?_
              refine lv_iconst (v := 1) hx hb d_M_isWrong_188 (by decide) ?_
              have hPc := hP.sub (ws' := [(bM, .inr (3, [.int cd, .int wd, .ref bT, .ref bF, .int al, .ref bN, .ref bP, .ref bQ, .ref bR, .int sz1, .int un, .int (b2i mo), .int tl, .int (b2i sp), .int tpo, .long fro, .int (b2i ly)])), (bP, .inl (kP, 2, .inl pw)), (bQ, .inl (kQ, 2, .inr (.inl pt)))]) [1, 2, 3] rfl
              have hDc := hD.sub (ws' := [(bM, .inr (3, [.int cd, .int wd, .ref bT, .ref bF, .int al, .ref bN, .ref bP, .ref bQ, .ref bR, .int sz1, .int un, .int (b2i mo), .int tl, .int (b2i sp), .int tpo, .long fro, .int (b2i ly)])), (bP, .inl (kP, 2, .inl pw)), (bQ, .inl (kQ, 2, .inr (.inl pt)))]) [1, 2, 3] (by decide) rfl
              have hKc := hK.sub (tys' := [(kP, .int), (kQ, .long)]) [1, 2] rfl
              have hFc := va_free (wc := [(bM, .inr (3, [.int cd, .int wd, .ref bT, .ref bF, .int al, .ref bN, .ref bP, .ref bQ, .ref bR, .int sz1, .int un, .int (b2i mo), .int tl, .int (b2i sp), .int tpo, .long fro, .int (b2i ly)])), (bP, .inl (kP, 2, .inl pw)), (bQ, .inl (kQ, 2, .inr (.inl pt)))]) hD hS hA [1, 2, 3] rfl
              refine cc_i (va_runV (As := [.int 1]) (rest := []) ⟨hx, hb, hml, hown, htA⟩ (c_M_isUnnormal l dC dI kP kQ bM bP bQ bT bF bN bR H.size cd wd al sz1 un mo tl sp tpo fro ly pw pt 1 in2_1) (cwV 1 htA (gi_V k_345 k_346 k_347 k_263 (gi_code k_261)) rfl rfl rfl (by decide +kernel) ⟨Nat.le_of_ble_eq_true rfl, Nat.le_of_ble_eq_true rfl⟩) (pre_V hnw hPc hKc hDc (ci := 3) (q0 := 0) rfl rfl) rfl rfl hl.1 rfl (lv_room (Nat.le_of_ble_eq_true rfl)) d_M_isWrong_189 ⟨Nat.le_of_ble_eq_true rfl, Nat.le_of_ble_eq_true rfl⟩) hS hFc hP hD [1, 2, 3] [0] (wr := [(bN, .inl (kN, 2, .inl (fun k => b2i (mi k))))]) rfl rfl (by decide) (by decide) (fun H locs hP hD hS => ?_)
              have hP : va_P (dC, dI) classes [(bN, .inl (kN, 2, .inl (fun k => b2i (mi k)))), (bM, .inr (3, [.int cd, .int wd, .ref bT, .ref bF, .int al, .ref bN, .ref bP, .ref bQ, .ref bR, .int sz1, .int un, .int (b2i mo), .int tl, .int (b2i sp), .int tpo, .long fro, .int (b2i ly)])), (bP, .inl (kP, 2, .inl pw)), (bQ, .inl (kQ, 2, .inr (.inl pt)))] H := hP
              have hD : va_D A [(bN, .inl (kN, 2, .inl (fun k => b2i (mi k)))), (bM, .inr (3, [.int cd, .int wd, .ref bT, .ref bF, .int al, .ref bN, .ref bP, .ref bQ, .ref bR, .int sz1, .int un, .int (b2i mo), .int tl, .int (b2i sp), .int tpo, .long fro, .int (b2i ly)])), (bP, .inl (kP, 2, .inl pw)), (bQ, .inl (kQ, 2, .inr (.inl pt)))] := hD
              refine lv_if_eq (tgt := 199) hx hb d_M_isWrong_192 (by decide) (fun c_192 => ?_) (fun c_192 => ?_)
              · skip
                have c_192 : ¬ (g_M_isUnnormal pw pt 1) = true := b2i_z c_192
                refine lv_iconst (v := 0) hx hb d_M_isWrong_199 (by decide) ?_
                have hE : g_M_isWrong wd mi pw pt iop = (false) := by clear hP hD hl hS; subst ej16_0; unfold g_M_isWrong; (try dsimp only); rw [if_neg c_20, if_pos c_68, if_neg c_114, if_neg c_160, if_neg c_176, if_neg c_192]
                have hP9 : va_P (dC, dI) classes [(bM, .inr (3, [.int cd, .int wd, .ref bT, .ref bF, .int al, .ref bN, .ref bP, .ref bQ, .ref bR, .int sz1, .int un, .int (b2i mo), .int tl, .int (b2i sp), .int tpo, .long fro, .int (b2i ly)])), (bN, .inl (kN, 2, .inl (fun k => b2i (mi k)))), (bP, .inl (kP, 2, .inl pw)), (bQ, .inl (kQ, 2, .inr (.inl pt)))] H := by exact hP.sub [1, 0, 2, 3] rfl
                have hD9 : va_D A [(bM, .inr (3, [.int cd, .int wd, .ref bT, .ref bF, .int al, .ref bN, .ref bP, .ref bQ, .ref bR, .int sz1, .int un, .int (b2i mo), .int tl, .int (b2i sp), .int tpo, .long fro, .int (b2i ly)])), (bN, .inl (kN, 2, .inl (fun k => b2i (mi k)))), (bP, .inl (kP, 2, .inl pw)), (bQ, .inl (kQ, 2, .inr (.inl pt)))] := by exact hD.sub [1, 0, 2, 3] (by decide) rfl
                exact W.zret (v := 0) hx hb hr (by first | exact nar_b2i _ | rfl) (fun t ht hW => ⟨⟨0, (), rfl, by rw [hE]; rfl, by rw [ht]; exact hP9, hD9⟩, hS.F ht⟩) hS.2.2 d_M_isWrong_200
              · skip
                have c_192 : (g_M_isUnnormal pw pt 1) = true := b2i_nz c_192
                refine lv_iconst (v := 1) hx hb d_M_isWrong_195 (by decide) ?_
                refine lv_goto (tgt := 200) hx hb d_M_isWrong_196 (by decide) ?_
                have hE : g_M_isWrong wd mi pw pt iop = (true) := by clear hP hD hl hS; subst ej16_0; unfold g_M_isWrong; (try dsimp only); rw [if_neg c_20, if_pos c_68, if_neg c_114, if_neg c_160, if_neg c_176, if_pos c_192]
                have hP9 : va_P (dC, dI) classes [(bM, .inr (3, [.int cd, .int wd, .ref bT, .ref bF, .int al, .ref bN, .ref bP, .ref bQ, .ref bR, .int sz1, .int un, .int (b2i mo), .int tl, .int (b2i sp), .int tpo, .long fro, .int (b2i ly)])), (bN, .inl (kN, 2, .inl (fun k => b2i (mi k)))), (bP, .inl (kP, 2, .inl pw)), (bQ, .inl (kQ, 2, .inr (.inl pt)))] H := by exact hP.sub [1, 0, 2, 3] rfl
                have hD9 : va_D A [(bM, .inr (3, [.int cd, .int wd, .ref bT, .ref bF, .int al, .ref bN, .ref bP, .ref bQ, .ref bR, .int sz1, .int un, .int (b2i mo), .int tl, .int (b2i sp), .int tpo, .long fro, .int (b2i ly)])), (bN, .inl (kN, 2, .inl (fun k => b2i (mi k)))), (bP, .inl (kP, 2, .inl pw)), (bQ, .inl (kQ, 2, .inr (.inl pt)))] := by exact hD.sub [1, 0, 2, 3] (by decide) rfl
                exact W.zret (v := 1) hx hb hr (by first | exact nar_b2i _ | rfl) (fun t ht hW => ⟨⟨1, (), rfl, by rw [hE]; rfl, by rw [ht]; exact hP9, hD9⟩, hS.F ht⟩) hS.2.2 d_M_isWrong_200
            · skip
              have c_176 : (g_M_isNothing pw pt 0) = true := b2i_nz c_176
              refine lv_aload_n hx hb d_M_isWrong_179 rfl (lv_at hl 1 rfl) ?_
              refine lv_iconst (v := 1) hx hb d_M_isWrong_180 (by decide) ?_
              have hPc := hP.sub (ws' := [(bM, .inr (3, [.int cd, .int wd, .ref bT, .ref bF, .int al, .ref bN, .ref bP, .ref bQ, .ref bR, .int sz1, .int un, .int (b2i mo), .int tl, .int (b2i sp), .int tpo, .long fro, .int (b2i ly)])), (bP, .inl (kP, 2, .inl pw)), (bQ, .inl (kQ, 2, .inr (.inl pt)))]) [1, 2, 3] rfl
              have hDc := hD.sub (ws' := [(bM, .inr (3, [.int cd, .int wd, .ref bT, .ref bF, .int al, .ref bN, .ref bP, .ref bQ, .ref bR, .int sz1, .int un, .int (b2i mo), .int tl, .int (b2i sp), .int tpo, .long fro, .int (b2i ly)])), (bP, .inl (kP, 2, .inl pw)), (bQ, .inl (kQ, 2, .inr (.inl pt)))]) [1, 2, 3] (by decide) rfl
              have hKc := hK.sub (tys' := [(kP, .int), (kQ, .long)]) [1, 2] rfl
              have hFc := va_free (wc := [(bM, .inr (3, [.int cd, .int wd, .ref bT, .ref bF, .int al, .ref bN, .ref bP, .ref bQ, .ref bR, .int sz1, .int un, .int (b2i mo), .int tl, .int (b2i sp), .int tpo, .long fro, .int (b2i ly)])), (bP, .inl (kP, 2, .inl pw)), (bQ, .inl (kQ, 2, .inr (.inl pt)))]) hD hS hA [1, 2, 3] rfl
              refine cc_i (va_runV (As := [.int 1]) (rest := []) ⟨hx, hb, hml, hown, htA⟩ (c_M_isNothing l dC dI kP kQ bM bP bQ bT bF bN bR H.size cd wd al sz1 un mo tl sp tpo fro ly pw pt 1 in2_1) (cwV 1 htA (gi_V k_322 k_323 k_324 k_263 (gi_code k_259)) rfl rfl rfl (by decide +kernel) ⟨Nat.le_of_ble_eq_true rfl, Nat.le_of_ble_eq_true rfl⟩) (pre_V hnw hPc hKc hDc (ci := 3) (q0 := 0) rfl rfl) rfl rfl hl.1 rfl (lv_room (Nat.le_of_ble_eq_true rfl)) d_M_isWrong_181 ⟨Nat.le_of_ble_eq_true rfl, Nat.le_of_ble_eq_true rfl⟩) hS hFc hP hD [1, 2, 3] [0] (wr := [(bN, .inl (kN, 2, .inl (fun k => b2i (mi k))))]) rfl rfl (by decide) (by decide) (fun H locs hP hD hS => ?_)
              have hP : va_P (dC, dI) classes [(bN, .inl (kN, 2, .inl (fun k => b2i (mi k)))), (bM, .inr (3, [.int cd, .int wd, .ref bT, .ref bF, .int al, .ref bN, .ref bP, .ref bQ, .ref bR, .int sz1, .int un, .int (b2i mo), .int tl, .int (b2i sp), .int tpo, .long fro, .int (b2i ly)])), (bP, .inl (kP, 2, .inl pw)), (bQ, .inl (kQ, 2, .inr (.inl pt)))] H := hP
              have hD : va_D A [(bN, .inl (kN, 2, .inl (fun k => b2i (mi k)))), (bM, .inr (3, [.int cd, .int wd, .ref bT, .ref bF, .int al, .ref bN, .ref bP, .ref bQ, .ref bR, .int sz1, .int un, .int (b2i mo), .int tl, .int (b2i sp), .int tpo, .long fro, .int (b2i ly)])), (bP, .inl (kP, 2, .inl pw)), (bQ, .inl (kQ, 2, .inr (.inl pt)))] := hD
              refine lv_if_ne (tgt := 195) hx hb d_M_isWrong_184 (by decide) (fun c_184 => ?_) (fun c_184 => ?_)
              · skip
                have c_184 : (g_M_isNothing pw pt 1) = true := b2i_nz c_184
                refine lv_iconst (v := 1) hx hb d_M_isWrong_195 (by decide) ?_
                refine lv_goto (tgt := 200) hx hb d_M_isWrong_196 (by decide) ?_
                have hE : g_M_isWrong wd mi pw pt iop = (true) := by clear hP hD hl hS; subst ej16_0; unfold g_M_isWrong; (try dsimp only); rw [if_neg c_20, if_pos c_68, if_neg c_114, if_neg c_160, if_pos c_176, if_pos c_184]
                have hP9 : va_P (dC, dI) classes [(bM, .inr (3, [.int cd, .int wd, .ref bT, .ref bF, .int al, .ref bN, .ref bP, .ref bQ, .ref bR, .int sz1, .int un, .int (b2i mo), .int tl, .int (b2i sp), .int tpo, .long fro, .int (b2i ly)])), (bN, .inl (kN, 2, .inl (fun k => b2i (mi k)))), (bP, .inl (kP, 2, .inl pw)), (bQ, .inl (kQ, 2, .inr (.inl pt)))] H := by exact hP.sub [1, 0, 2, 3] rfl
                have hD9 : va_D A [(bM, .inr (3, [.int cd, .int wd, .ref bT, .ref bF, .int al, .ref bN, .ref bP, .ref bQ, .ref bR, .int sz1, .int un, .int (b2i mo), .int tl, .int (b2i sp), .int tpo, .long fro, .int (b2i ly)])), (bN, .inl (kN, 2, .inl (fun k => b2i (mi k)))), (bP, .inl (kP, 2, .inl pw)), (bQ, .inl (kQ, 2, .inr (.inl pt)))] := by exact hD.sub [1, 0, 2, 3] (by decide) rfl
                exact W.zret (v := 1) hx hb hr (by first | exact nar_b2i _ | rfl) (fun t ht hW => ⟨⟨1, (), rfl, by rw [hE]; rfl, by rw [ht]; exact hP9, hD9⟩, hS.F ht⟩) hS.2.2 d_M_isWrong_200
              · skip
                have c_184 : ¬ (g_M_isNothing pw pt 1) = true := b2i_z c_184
                refine lv_aload_n hx hb d_M_isWrong_187 rfl (lv_at hl 1 rfl) ?_
                refine lv_iconst (v := 1) hx hb d_M_isWrong_188 (by decide) ?_
                have hPc := hP.sub (ws' := [(bM, .inr (3, [.int cd, .int wd, .ref bT, .ref bF, .int al, .ref bN, .ref bP, .ref bQ, .ref bR, .int sz1, .int un, .int (b2i mo), .int tl, .int (b2i sp), .int tpo, .long fro, .int (b2i ly)])), (bP, .inl (kP, 2, .inl pw)), (bQ, .inl (kQ, 2, .inr (.inl pt)))]) [1, 2, 3] rfl
                have hDc := hD.sub (ws' := [(bM, .inr (3, [.int cd, .int wd, .ref bT, .ref bF, .int al, .ref bN, .ref bP, .ref bQ, .ref bR, .int sz1, .int un, .int (b2i mo), .int tl, .int (b2i sp), .int tpo, .long fro, .int (b2i ly)])), (bP, .inl (kP, 2, .inl pw)), (bQ, .inl (kQ, 2, .inr (.inl pt)))]) [1, 2, 3] (by decide) rfl
                have hKc := hK.sub (tys' := [(kP, .int), (kQ, .long)]) [1, 2] rfl
                have hFc := va_free (wc := [(bM, .inr (3, [.int cd, .int wd, .ref bT, .ref bF, .int al, .ref bN, .ref bP, .ref bQ, .ref bR, .int sz1, .int un, .int (b2i mo), .int tl, .int (b2i sp), .int tpo, .long fro, .int (b2i ly)])), (bP, .inl (kP, 2, .inl pw)), (bQ, .inl (kQ, 2, .inr (.inl pt)))]) hD hS hA [1, 2, 3] rfl
                refine cc_i (va_runV (As := [.int 1]) (rest := []) ⟨hx, hb, hml, hown, htA⟩ (c_M_isUnnormal l dC dI kP kQ bM bP bQ bT bF bN bR H.size cd wd al sz1 un mo tl sp tpo fro ly pw pt 1 in2_1) (cwV 1 htA (gi_V k_345 k_346 k_347 k_263 (gi_code k_261)) rfl rfl rfl (by decide +kernel) ⟨Nat.le_of_ble_eq_true rfl, Nat.le_of_ble_eq_true rfl⟩) (pre_V hnw hPc hKc hDc (ci := 3) (q0 := 0) rfl rfl) rfl rfl hl.1 rfl (lv_room (Nat.le_of_ble_eq_true rfl)) d_M_isWrong_189 ⟨Nat.le_of_ble_eq_true rfl, Nat.le_of_ble_eq_true rfl⟩) hS hFc hP hD [1, 2, 3] [0] (wr := [(bN, .inl (kN, 2, .inl (fun k => b2i (mi k))))]) rfl rfl (by decide) (by decide) (fun H locs hP hD hS => ?_)
                have hP : va_P (dC, dI) classes [(bN, .inl (kN, 2, .inl (fun k => b2i (mi k)))), (bM, .inr (3, [.int cd, .int wd, .ref bT, .ref bF, .int al, .ref bN, .ref bP, .ref bQ, .ref bR, .int sz1, .int un, .int (b2i mo), .int tl, .int (b2i sp), .int tpo, .long fro, .int (b2i ly)])), (bP, .inl (kP, 2, .inl pw)), (bQ, .inl (kQ, 2, .inr (.inl pt)))] H := hP
                have hD : va_D A [(bN, .inl (kN, 2, .inl (fun k => b2i (mi k)))), (bM, .inr (3, [.int cd, .int wd, .ref bT, .ref bF, .int al, .ref bN, .ref bP, .ref bQ, .ref bR, .int sz1, .int un, .int (b2i mo), .int tl, .int (b2i sp), .int tpo, .long fro, .int (b2i ly)])), (bP, .inl (kP, 2, .inl pw)), (bQ, .inl (kQ, 2, .inr (.inl pt)))] := hD
                refine lv_if_eq (tgt := 199) hx hb d_M_isWrong_192 (by decide) (fun c_192 => ?_) (fun c_192 => ?_)
                · skip
                  have c_192 : ¬ (g_M_isUnnormal pw pt 1) = true := b2i_z c_192
                  refine lv_iconst (v := 0) hx hb d_M_isWrong_199 (by decide) ?_
                  have hE : g_M_isWrong wd mi pw pt iop = (false) := by clear hP hD hl hS; subst ej16_0; unfold g_M_isWrong; (try dsimp only); rw [if_neg c_20, if_pos c_68, if_neg c_114, if_neg c_160, if_pos c_176, if_neg c_184, if_neg c_192]
                  have hP9 : va_P (dC, dI) classes [(bM, .inr (3, [.int cd, .int wd, .ref bT, .ref bF, .int al, .ref bN, .ref bP, .ref bQ, .ref bR, .int sz1, .int un, .int (b2i mo), .int tl, .int (b2i sp), .int tpo, .long fro, .int (b2i ly)])), (bN, .inl (kN, 2, .inl (fun k => b2i (mi k)))), (bP, .inl (kP, 2, .inl pw)), (bQ, .inl (kQ, 2, .inr (.inl pt)))] H := by exact hP.sub [1, 0, 2, 3] rfl
                  have hD9 : va_D A [(bM, .inr (3, [.int cd, .int wd, .ref bT, .ref bF, .int al, .ref bN, .ref bP, .ref bQ, .ref bR, .int sz1, .int un, .int (b2i mo), .int tl, .int (b2i sp), .int tpo, .long fro, .int (b2i ly)])), (bN, .inl (kN, 2, .inl (fun k => b2i (mi k)))), (bP, .inl (kP, 2, .inl pw)), (bQ, .inl (kQ, 2, .inr (.inl pt)))] := by exact hD.sub [1, 0, 2, 3] (by decide) rfl
                  exact W.zret (v := 0) hx hb hr (by first | exact nar_b2i _ | rfl) (fun t ht hW => ⟨⟨0, (), rfl, by rw [hE]; rfl, by rw [ht]; exact hP9, hD9⟩, hS.F ht⟩) hS.2.2 d_M_isWrong_200
                · skip
                  have c_192 : (g_M_isUnnormal pw pt 1) = true := b2i_nz c_192
                  refine lv_iconst (v := 1) hx hb d_M_isWrong_195 (by decide) ?_
                  refine lv_goto (tgt := 200) hx hb d_M_isWrong_196 (by decide) ?_
                  have hE : g_M_isWrong wd mi pw pt iop = (true) := by clear hP hD hl hS; subst ej16_0; unfold g_M_isWrong; (try dsimp only); rw [if_neg c_20, if_pos c_68, if_neg c_114, if_neg c_160, if_pos c_176, if_neg c_184, if_pos c_192]
                  have hP9 : va_P (dC, dI) classes [(bM, .inr (3, [.int cd, .int wd, .ref bT, .ref bF, .int al, .ref bN, .ref bP, .ref bQ, .ref bR, .int sz1, .int un, .int (b2i mo), .int tl, .int (b2i sp), .int tpo, .long fro, .int (b2i ly)])), (bN, .inl (kN, 2, .inl (fun k => b2i (mi k)))), (bP, .inl (kP, 2, .inl pw)), (bQ, .inl (kQ, 2, .inr (.inl pt)))] H := by exact hP.sub [1, 0, 2, 3] rfl
                  have hD9 : va_D A [(bM, .inr (3, [.int cd, .int wd, .ref bT, .ref bF, .int al, .ref bN, .ref bP, .ref bQ, .ref bR, .int sz1, .int un, .int (b2i mo), .int tl, .int (b2i sp), .int tpo, .long fro, .int (b2i ly)])), (bN, .inl (kN, 2, .inl (fun k => b2i (mi k)))), (bP, .inl (kP, 2, .inl pw)), (bQ, .inl (kQ, 2, .inr (.inl pt)))] := by exact hD.sub [1, 0, 2, 3] (by decide) rfl
                  exact W.zret (v := 1) hx hb hr (by first | exact nar_b2i _ | rfl) (fun t ht hW => ⟨⟨1, (), rfl, by rw [hE]; rfl, by rw [ht]; exact hP9, hD9⟩, hS.F ht⟩) hS.2.2 d_M_isWrong_200
          · skip
            have c_160 : (g_M_isEndless pw pt 0) = true := b2i_nz c_160
            refine lv_aload_n hx hb d_M_isWrong_163 rfl (lv_at hl 1 rfl) ?_
            refine lv_iconst (v := 1) hx hb d_M_isWrong_164 (by decide) ?_
            have hPc := hP.sub (ws' := [(bM, .inr (3, [.int cd, .int wd, .ref bT, .ref bF, .int al, .ref bN, .ref bP, .ref bQ, .ref bR, .int sz1, .int un, .int (b2i mo), .int tl, .int (b2i sp), .int tpo, .long fro, .int (b2i ly)])), (bP, .inl (kP, 2, .inl pw)), (bQ, .inl (kQ, 2, .inr (.inl pt)))]) [1, 2, 3] rfl
            have hDc := hD.sub (ws' := [(bM, .inr (3, [.int cd, .int wd, .ref bT, .ref bF, .int al, .ref bN, .ref bP, .ref bQ, .ref bR, .int sz1, .int un, .int (b2i mo), .int tl, .int (b2i sp), .int tpo, .long fro, .int (b2i ly)])), (bP, .inl (kP, 2, .inl pw)), (bQ, .inl (kQ, 2, .inr (.inl pt)))]) [1, 2, 3] (by decide) rfl
            have hKc := hK.sub (tys' := [(kP, .int), (kQ, .long)]) [1, 2] rfl
            have hFc := va_free (wc := [(bM, .inr (3, [.int cd, .int wd, .ref bT, .ref bF, .int al, .ref bN, .ref bP, .ref bQ, .ref bR, .int sz1, .int un, .int (b2i mo), .int tl, .int (b2i sp), .int tpo, .long fro, .int (b2i ly)])), (bP, .inl (kP, 2, .inl pw)), (bQ, .inl (kQ, 2, .inr (.inl pt)))]) hD hS hA [1, 2, 3] rfl
            refine cc_i (va_runV (As := [.int 1]) (rest := []) ⟨hx, hb, hml, hown, htA⟩ (c_M_isEndless l dC dI kP kQ bM bP bQ bT bF bN bR H.size cd wd al sz1 un mo tl sp tpo fro ly pw pt 1 in2_1) (cwV 1 htA (gi_V k_342 k_343 k_344 k_263 (gi_code k_258)) rfl rfl rfl (by decide +kernel) ⟨Nat.le_of_ble_eq_true rfl, Nat.le_of_ble_eq_true rfl⟩) (pre_V hnw hPc hKc hDc (ci := 3) (q0 := 0) rfl rfl) rfl rfl hl.1 rfl (lv_room (Nat.le_of_ble_eq_true rfl)) d_M_isWrong_165 ⟨Nat.le_of_ble_eq_true rfl, Nat.le_of_ble_eq_true rfl⟩) hS hFc hP hD [1, 2, 3] [0] (wr := [(bN, .inl (kN, 2, .inl (fun k => b2i (mi k))))]) rfl rfl (by decide) (by decide) (fun H locs hP hD hS => ?_)
            have hP : va_P (dC, dI) classes [(bN, .inl (kN, 2, .inl (fun k => b2i (mi k)))), (bM, .inr (3, [.int cd, .int wd, .ref bT, .ref bF, .int al, .ref bN, .ref bP, .ref bQ, .ref bR, .int sz1, .int un, .int (b2i mo), .int tl, .int (b2i sp), .int tpo, .long fro, .int (b2i ly)])), (bP, .inl (kP, 2, .inl pw)), (bQ, .inl (kQ, 2, .inr (.inl pt)))] H := hP
            have hD : va_D A [(bN, .inl (kN, 2, .inl (fun k => b2i (mi k)))), (bM, .inr (3, [.int cd, .int wd, .ref bT, .ref bF, .int al, .ref bN, .ref bP, .ref bQ, .ref bR, .int sz1, .int un, .int (b2i mo), .int tl, .int (b2i sp), .int tpo, .long fro, .int (b2i ly)])), (bP, .inl (kP, 2, .inl pw)), (bQ, .inl (kQ, 2, .inr (.inl pt)))] := hD
            refine lv_if_ne (tgt := 195) hx hb d_M_isWrong_168 (by decide) (fun c_168 => ?_) (fun c_168 => ?_)
            · skip
              have c_168 : (g_M_isEndless pw pt 1) = true := b2i_nz c_168
              refine lv_iconst (v := 1) hx hb d_M_isWrong_195 (by decide) ?_
              refine lv_goto (tgt := 200) hx hb d_M_isWrong_196 (by decide) ?_
              have hE : g_M_isWrong wd mi pw pt iop = (true) := by clear hP hD hl hS; subst ej16_0; unfold g_M_isWrong; (try dsimp only); rw [if_neg c_20, if_pos c_68, if_neg c_114, if_pos c_160, if_pos c_168]
              have hP9 : va_P (dC, dI) classes [(bM, .inr (3, [.int cd, .int wd, .ref bT, .ref bF, .int al, .ref bN, .ref bP, .ref bQ, .ref bR, .int sz1, .int un, .int (b2i mo), .int tl, .int (b2i sp), .int tpo, .long fro, .int (b2i ly)])), (bN, .inl (kN, 2, .inl (fun k => b2i (mi k)))), (bP, .inl (kP, 2, .inl pw)), (bQ, .inl (kQ, 2, .inr (.inl pt)))] H := by exact hP.sub [1, 0, 2, 3] rfl
              have hD9 : va_D A [(bM, .inr (3, [.int cd, .int wd, .ref bT, .ref bF, .int al, .ref bN, .ref bP, .ref bQ, .ref bR, .int sz1, .int un, .int (b2i mo), .int tl, .int (b2i sp), .int tpo, .long fro, .int (b2i ly)])), (bN, .inl (kN, 2, .inl (fun k => b2i (mi k)))), (bP, .inl (kP, 2, .inl pw)), (bQ, .inl (kQ, 2, .inr (.inl pt)))] := by exact hD.sub [1, 0, 2, 3] (by decide) rfl
              exact W.zret (v := 1) hx hb hr (by first | exact nar_b2i _ | rfl) (fun t ht hW => ⟨⟨1, (), rfl, by rw [hE]; rfl, by rw [ht]; exact hP9, hD9⟩, hS.F ht⟩) hS.2.2 d_M_isWrong_200
            · skip
              have c_168 : ¬ (g_M_isEndless pw pt 1) = true := b2i_z c_168
              refine lv_aload_n hx hb d_M_isWrong_171 rfl (lv_at hl 1 rfl) ?_
              refine lv_iconst (v := 0) hx hb d_M_isWrong_172 (by decide) ?_
              have hPc := hP.sub (ws' := [(bM, .inr (3, [.int cd, .int wd, .ref bT, .ref bF, .int al, .ref bN, .ref bP, .ref bQ, .ref bR, .int sz1, .int un, .int (b2i mo), .int tl, .int (b2i sp), .int tpo, .long fro, .int (b2i ly)])), (bP, .inl (kP, 2, .inl pw)), (bQ, .inl (kQ, 2, .inr (.inl pt)))]) [1, 2, 3] rfl
              have hDc := hD.sub (ws' := [(bM, .inr (3, [.int cd, .int wd, .ref bT, .ref bF, .int al, .ref bN, .ref bP, .ref bQ, .ref bR, .int sz1, .int un, .int (b2i mo), .int tl, .int (b2i sp), .int tpo, .long fro, .int (b2i ly)])), (bP, .inl (kP, 2, .inl pw)), (bQ, .inl (kQ, 2, .inr (.inl pt)))]) [1, 2, 3] (by decide) rfl
              have hKc := hK.sub (tys' := [(kP, .int), (kQ, .long)]) [1, 2] rfl
              have hFc := va_free (wc := [(bM, .inr (3, [.int cd, .int wd, .ref bT, .ref bF, .int al, .ref bN, .ref bP, .ref bQ, .ref bR, .int sz1, .int un, .int (b2i mo), .int tl, .int (b2i sp), .int tpo, .long fro, .int (b2i ly)])), (bP, .inl (kP, 2, .inl pw)), (bQ, .inl (kQ, 2, .inr (.inl pt)))]) hD hS hA [1, 2, 3] rfl
              refine cc_i (va_runV (As := [.int 0]) (rest := []) ⟨hx, hb, hml, hown, htA⟩ (c_M_isNothing l dC dI kP kQ bM bP bQ bT bF bN bR H.size cd wd al sz1 un mo tl sp tpo fro ly pw pt 0 in2_0) (cwV 1 htA (gi_V k_322 k_323 k_324 k_263 (gi_code k_259)) rfl rfl rfl (by decide +kernel) ⟨Nat.le_of_ble_eq_true rfl, Nat.le_of_ble_eq_true rfl⟩) (pre_V hnw hPc hKc hDc (ci := 3) (q0 := 0) rfl rfl) rfl rfl hl.1 rfl (lv_room (Nat.le_of_ble_eq_true rfl)) d_M_isWrong_173 ⟨Nat.le_of_ble_eq_true rfl, Nat.le_of_ble_eq_true rfl⟩) hS hFc hP hD [1, 2, 3] [0] (wr := [(bN, .inl (kN, 2, .inl (fun k => b2i (mi k))))]) rfl rfl (by decide) (by decide) (fun H locs hP hD hS => ?_)
              have hP : va_P (dC, dI) classes [(bN, .inl (kN, 2, .inl (fun k => b2i (mi k)))), (bM, .inr (3, [.int cd, .int wd, .ref bT, .ref bF, .int al, .ref bN, .ref bP, .ref bQ, .ref bR, .int sz1, .int un, .int (b2i mo), .int tl, .int (b2i sp), .int tpo, .long fro, .int (b2i ly)])), (bP, .inl (kP, 2, .inl pw)), (bQ, .inl (kQ, 2, .inr (.inl pt)))] H := hP
              have hD : va_D A [(bN, .inl (kN, 2, .inl (fun k => b2i (mi k)))), (bM, .inr (3, [.int cd, .int wd, .ref bT, .ref bF, .int al, .ref bN, .ref bP, .ref bQ, .ref bR, .int sz1, .int un, .int (b2i mo), .int tl, .int (b2i sp), .int tpo, .long fro, .int (b2i ly)])), (bP, .inl (kP, 2, .inl pw)), (bQ, .inl (kQ, 2, .inr (.inl pt)))] := hD
              refine lv_if_eq (tgt := 187) hx hb d_M_isWrong_176 (by decide) (fun c_176 => ?_) (fun c_176 => ?_)
              · skip
                have c_176 : ¬ (g_M_isNothing pw pt 0) = true := b2i_z c_176
                refine lv_aload_n hx hb d_M_isWrong_187 rfl (lv_at hl 1 rfl) ?_
                refine lv_iconst (v := 1) hx hb d_M_isWrong_188 (by decide) ?_
                have hPc := hP.sub (ws' := [(bM, .inr (3, [.int cd, .int wd, .ref bT, .ref bF, .int al, .ref bN, .ref bP, .ref bQ, .ref bR, .int sz1, .int un, .int (b2i mo), .int tl, .int (b2i sp), .int tpo, .long fro, .int (b2i ly)])), (bP, .inl (kP, 2, .inl pw)), (bQ, .inl (kQ, 2, .inr (.inl pt)))]) [1, 2, 3] rfl
                have hDc := hD.sub (ws' := [(bM, .inr (3, [.int cd, .int wd, .ref bT, .ref bF, .int al, .ref bN, .ref bP, .ref bQ, .ref bR, .int sz1, .int un, .int (b2i mo), .int tl, .int (b2i sp), .int tpo, .long fro, .int (b2i ly)])), (bP, .inl (kP, 2, .inl pw)), (bQ, .inl (kQ, 2, .inr (.inl pt)))]) [1, 2, 3] (by decide) rfl
                have hKc := hK.sub (tys' := [(kP, .int), (kQ, .long)]) [1, 2] rfl
                have hFc := va_free (wc := [(bM, .inr (3, [.int cd, .int wd, .ref bT, .ref bF, .int al, .ref bN, .ref bP, .ref bQ, .ref bR, .int sz1, .int un, .int (b2i mo), .int tl, .int (b2i sp), .int tpo, .long fro, .int (b2i ly)])), (bP, .inl (kP, 2, .inl pw)), (bQ, .inl (kQ, 2, .inr (.inl pt)))]) hD hS hA [1, 2, 3] rfl
                refine cc_i (va_runV (As := [.int 1]) (rest := []) ⟨hx, hb, hml, hown, htA⟩ (c_M_isUnnormal l dC dI kP kQ bM bP bQ bT bF bN bR H.size cd wd al sz1 un mo tl sp tpo fro ly pw pt 1 in2_1) (cwV 1 htA (gi_V k_345 k_346 k_347 k_263 (gi_code k_261)) rfl rfl rfl (by decide +kernel) ⟨Nat.le_of_ble_eq_true rfl, Nat.le_of_ble_eq_true rfl⟩) (pre_V hnw hPc hKc hDc (ci := 3) (q0 := 0) rfl rfl) rfl rfl hl.1 rfl (lv_room (Nat.le_of_ble_eq_true rfl)) d_M_isWrong_189 ⟨Nat.le_of_ble_eq_true rfl, Nat.le_of_ble_eq_true rfl⟩) hS hFc hP hD [1, 2, 3] [0] (wr := [(bN, .inl (kN, 2, .inl (fun k => b2i (mi k))))]) rfl rfl (by decide) (by decide) (fun H locs hP hD hS => ?_)
                have hP : va_P (dC, dI) classes [(bN, .inl (kN, 2, .inl (fun k => b2i (mi k)))), (bM, .inr (3, [.int cd, .int wd, .ref bT, .ref bF, .int al, .ref bN, .ref bP, .ref bQ, .ref bR, .int sz1, .int un, .int (b2i mo), .int tl, .int (b2i sp), .int tpo, .long fro, .int (b2i ly)])), (bP, .inl (kP, 2, .inl pw)), (bQ, .inl (kQ, 2, .inr (.inl pt)))] H := hP
                have hD : va_D A [(bN, .inl (kN, 2, .inl (fun k => b2i (mi k)))), (bM, .inr (3, [.int cd, .int wd, .ref bT, .ref bF, .int al, .ref bN, .ref bP, .ref bQ, .ref bR, .int sz1, .int un, .int (b2i mo), .int tl, .int (b2i sp), .int tpo, .long fro, .int (b2i ly)])), (bP, .inl (kP, 2, .inl pw)), (bQ, .inl (kQ, 2, .inr (.inl pt)))] := hD
                refine lv_if_eq (tgt := 199) hx hb d_M_isWrong_192 (by decide) (fun c_192 => ?_) (fun c_192 => ?_)
                · skip
                  have c_192 : ¬ (g_M_isUnnormal pw pt 1) = true := b2i_z c_192
                  refine lv_iconst (v := 0) hx hb d_M_isWrong_199 (by decide) ?_
                  have hE : g_M_isWrong wd mi pw pt iop = (false) := by clear hP hD hl hS; subst ej16_0; unfold g_M_isWrong; (try dsimp only); rw [if_neg c_20, if_pos c_68, if_neg c_114, if_pos c_160, if_neg c_168, if_neg c_176, if_neg c_192]
                  have hP9 : va_P (dC, dI) classes [(bM, .inr (3, [.int cd, .int wd, .ref bT, .ref bF, .int al, .ref bN, .ref bP, .ref bQ, .ref bR, .int sz1, .int un, .int (b2i mo), .int tl, .int (b2i sp), .int tpo, .long fro, .int (b2i ly)])), (bN, .inl (kN, 2, .inl (fun k => b2i (mi k)))), (bP, .inl (kP, 2, .inl pw)), (bQ, .inl (kQ, 2, .inr (.inl pt)))] H := by exact hP.sub [1, 0, 2, 3] rfl
                  have hD9 : va_D A [(bM, .inr (3, [.int cd, .int wd, .ref bT, .ref bF, .int al, .ref bN, .ref bP, .ref bQ, .ref bR, .int sz1, .int un, .int (b2i mo), .int tl, .int (b2i sp), .int tpo, .long fro, .int (b2i ly)])), (bN, .inl (kN, 2, .inl (fun k => b2i (mi k)))), (bP, .inl (kP, 2, .inl pw)), (bQ, .inl (kQ, 2, .inr (.inl pt)))] := by exact hD.sub [1, 0, 2, 3] (by decide) rfl
                  exact W.zret (v := 0) hx hb hr (by first | exact nar_b2i _ | rfl) (fun t ht hW => ⟨⟨0, (), rfl, by rw [hE]; rfl, by rw [ht]; exact hP9, hD9⟩, hS.F ht⟩) hS.2.2 d_M_isWrong_200
                · skip
                  have c_192 : (g_M_isUnnormal pw pt 1) = true := b2i_nz c_192
                  refine lv_iconst (v := 1) hx hb d_M_isWrong_195 (by decide) ?_
                  refine lv_goto (tgt := 200) hx hb d_M_isWrong_196 (by decide) ?_
                  have hE : g_M_isWrong wd mi pw pt iop = (true) := by clear hP hD hl hS; subst ej16_0; unfold g_M_isWrong; (try dsimp only); rw [if_neg c_20, if_pos c_68, if_neg c_114, if_pos c_160, if_neg c_168, if_neg c_176, if_pos c_192]
                  have hP9 : va_P (dC, dI) classes [(bM, .inr (3, [.int cd, .int wd, .ref bT, .ref bF, .int al, .ref bN, .ref bP, .ref bQ, .ref bR, .int sz1, .int un, .int (b2i mo), .int tl, .int (b2i sp), .int tpo, .long fro, .int (b2i ly)])), (bN, .inl (kN, 2, .inl (fun k => b2i (mi k)))), (bP, .inl (kP, 2, .inl pw)), (bQ, .inl (kQ, 2, .inr (.inl pt)))] H := by exact hP.sub [1, 0, 2, 3] rfl
                  have hD9 : va_D A [(bM, .inr (3, [.int cd, .int wd, .ref bT, .ref bF, .int al, .ref bN, .ref bP, .ref bQ, .ref bR, .int sz1, .int un, .int (b2i mo), .int tl, .int (b2i sp), .int tpo, .long fro, .int (b2i ly)])), (bN, .inl (kN, 2, .inl (fun k => b2i (mi k)))), (bP, .inl (kP, 2, .inl pw)), (bQ, .inl (kQ, 2, .inr (.inl pt)))] := by exact hD.sub [1, 0, 2, 3] (by decide) rfl
                  exact W.zret (v := 1) hx hb hr (by first | exact nar_b2i _ | rfl) (fun t ht hW => ⟨⟨1, (), rfl, by rw [hE]; rfl, by rw [ht]; exact hP9, hD9⟩, hS.F ht⟩) hS.2.2 d_M_isWrong_200
              · skip
                have c_176 : (g_M_isNothing pw pt 0) = true := b2i_nz c_176
                refine lv_aload_n hx hb d_M_isWrong_179 rfl (lv_at hl 1 rfl) ?_
                refine lv_iconst (v := 1) hx hb d_M_isWrong_180 (by decide) ?_
                have hPc := hP.sub (ws' := [(bM, .inr (3, [.int cd, .int wd, .ref bT, .ref bF, .int al, .ref bN, .ref bP, .ref bQ, .ref bR, .int sz1, .int un, .int (b2i mo), .int tl, .int (b2i sp), .int tpo, .long fro, .int (b2i ly)])), (bP, .inl (kP, 2, .inl pw)), (bQ, .inl (kQ, 2, .inr (.inl pt)))]) [1, 2, 3] rfl
                have hDc := hD.sub (ws' := [(bM, .inr (3, [.int cd, .int wd, .ref bT, .ref bF, .int al, .ref bN, .ref bP, .ref bQ, .ref bR, .int sz1, .int un, .int (b2i mo), .int tl, .int (b2i sp), .int tpo, .long fro, .int (b2i ly)])), (bP, .inl (kP, 2, .inl pw)), (bQ, .inl (kQ, 2, .inr (.inl pt)))]) [1, 2, 3] (by decide) rfl
                have hKc := hK.sub (tys' := [(kP, .int), (kQ, .long)]) [1, 2] rfl
                have hFc := va_free (wc := [(bM, .inr (3, [.int cd, .int wd, .ref bT, .ref bF, .int al, .ref bN, .ref bP, .ref bQ, .ref bR, .int sz1, .int un, .int (b2i mo), .int tl, .int (b2i sp), .int tpo, .long fro, .int (b2i ly)])), (bP, .inl (kP, 2, .inl pw)), (bQ, .inl (kQ, 2, .inr (.inl pt)))]) hD hS hA [1, 2, 3] rfl
                refine cc_i (va_runV (As := [.int 1]) (rest := []) ⟨hx, hb, hml, hown, htA⟩ (c_M_isNothing l dC dI kP kQ bM bP bQ bT bF bN bR H.size cd wd al sz1 un mo tl sp tpo fro ly pw pt 1 in2_1) (cwV 1 htA (gi_V k_322 k_323 k_324 k_263 (gi_code k_259)) rfl rfl rfl (by decide +kernel) ⟨Nat.le_of_ble_eq_true rfl, Nat.le_of_ble_eq_true rfl⟩) (pre_V hnw hPc hKc hDc (ci := 3) (q0 := 0) rfl rfl) rfl rfl hl.1 rfl (lv_room (Nat.le_of_ble_eq_true rfl)) d_M_isWrong_181 ⟨Nat.le_of_ble_eq_true rfl, Nat.le_of_ble_eq_true rfl⟩) hS hFc hP hD [1, 2, 3] [0] (wr := [(bN, .inl (kN, 2, .inl (fun k => b2i (mi k))))]) rfl rfl (by decide) (by decide) (fun H locs hP hD hS => ?_)
                have hP : va_P (dC, dI) classes [(bN, .inl (kN, 2, .inl (fun k => b2i (mi k)))), (bM, .inr (3, [.int cd, .int wd, .ref bT, .ref bF, .int al, .ref bN, .ref bP, .ref bQ, .ref bR, .int sz1, .int un, .int (b2i mo), .int tl, .int (b2i sp), .int tpo, .long fro, .int (b2i ly)])), (bP, .inl (kP, 2, .inl pw)), (bQ, .inl (kQ, 2, .inr (.inl pt)))] H := hP
                have hD : va_D A [(bN, .inl (kN, 2, .inl (fun k => b2i (mi k)))), (bM, .inr (3, [.int cd, .int wd, .ref bT, .ref bF, .int al, .ref bN, .ref bP, .ref bQ, .ref bR, .int sz1, .int un, .int (b2i mo), .int tl, .int (b2i sp), .int tpo, .long fro, .int (b2i ly)])), (bP, .inl (kP, 2, .inl pw)), (bQ, .inl (kQ, 2, .inr (.inl pt)))] := hD
                refine lv_if_ne (tgt := 195) hx hb d_M_isWrong_184 (by decide) (fun c_184 => ?_) (fun c_184 => ?_)
                · skip
                  have c_184 : (g_M_isNothing pw pt 1) = true := b2i_nz c_184
                  refine lv_iconst (v := 1) hx hb d_M_isWrong_195 (by decide) ?_
                  refine lv_goto (tgt := 200) hx hb d_M_isWrong_196 (by decide) ?_
                  have hE : g_M_isWrong wd mi pw pt iop = (true) := by clear hP hD hl hS; subst ej16_0; unfold g_M_isWrong; (try dsimp only); rw [if_neg c_20, if_pos c_68, if_neg c_114, if_pos c_160, if_neg c_168, if_pos c_176, if_pos c_184]
                  have hP9 : va_P (dC, dI) classes [(bM, .inr (3, [.int cd, .int wd, .ref bT, .ref bF, .int al, .ref bN, .ref bP, .ref bQ, .ref bR, .int sz1, .int un, .int (b2i mo), .int tl, .int (b2i sp), .int tpo, .long fro, .int (b2i ly)])), (bN, .inl (kN, 2, .inl (fun k => b2i (mi k)))), (bP, .inl (kP, 2, .inl pw)), (bQ, .inl (kQ, 2, .inr (.inl pt)))] H := by exact hP.sub [1, 0, 2, 3] rfl
                  have hD9 : va_D A [(bM, .inr (3, [.int cd, .int wd, .ref bT, .ref bF, .int al, .ref bN, .ref bP, .ref bQ, .ref bR, .int sz1, .int un, .int (b2i mo), .int tl, .int (b2i sp), .int tpo, .long fro, .int (b2i ly)])), (bN, .inl (kN, 2, .inl (fun k => b2i (mi k)))), (bP, .inl (kP, 2, .inl pw)), (bQ, .inl (kQ, 2, .inr (.inl pt)))] := by exact hD.sub [1, 0, 2, 3] (by decide) rfl
                  exact W.zret (v := 1) hx hb hr (by first | exact nar_b2i _ | rfl) (fun t ht hW => ⟨⟨1, (), rfl, by rw [hE]; rfl, by rw [ht]; exact hP9, hD9⟩, hS.F ht⟩) hS.2.2 d_M_isWrong_200
                · skip
                  have c_184 : ¬ (g_M_isNothing pw pt 1) = true := b2i_z c_184
                  refine lv_aload_n hx hb d_M_isWrong_187 rfl (lv_at hl 1 rfl) ?_
                  refine lv_iconst (v := 1) hx hb d_M_isWrong_188 (by decide) ?_
                  have hPc := hP.sub (ws' := [(bM, .inr (3, [.int cd, .int wd, .ref bT, .ref bF, .int al, .ref bN, .ref bP, .ref bQ, .ref bR, .int sz1, .int un, .int (b2i mo), .int tl, .int (b2i sp), .int tpo, .long fro, .int (b2i ly)])), (bP, .inl (kP, 2, .inl pw)), (bQ, .inl (kQ, 2, .inr (.inl pt)))]) [1, 2, 3] rfl
                  have hDc := hD.sub (ws' := [(bM, .inr (3, [.int cd, .int wd, .ref bT, .ref bF, .int al, .ref bN, .ref bP, .ref bQ, .ref bR, .int sz1, .int un, .int (b2i mo), .int tl, .int (b2i sp), .int tpo, .long fro, .int (b2i ly)])), (bP, .inl (kP, 2, .inl pw)), (bQ, .inl (kQ, 2, .inr (.inl pt)))]) [1, 2, 3] (by decide) rfl
                  have hKc := hK.sub (tys' := [(kP, .int), (kQ, .long)]) [1, 2] rfl
                  have hFc := va_free (wc := [(bM, .inr (3, [.int cd, .int wd, .ref bT, .ref bF, .int al, .ref bN, .ref bP, .ref bQ, .ref bR, .int sz1, .int un, .int (b2i mo), .int tl, .int (b2i sp), .int tpo, .long fro, .int (b2i ly)])), (bP, .inl (kP, 2, .inl pw)), (bQ, .inl (kQ, 2, .inr (.inl pt)))]) hD hS hA [1, 2, 3] rfl
                  refine cc_i (va_runV (As := [.int 1]) (rest := []) ⟨hx, hb, hml, hown, htA⟩ (c_M_isUnnormal l dC dI kP kQ bM bP bQ bT bF bN bR H.size cd wd al sz1 un mo tl sp tpo fro ly pw pt 1 in2_1) (cwV 1 htA (gi_V k_345 k_346 k_347 k_263 (gi_code k_261)) rfl rfl rfl (by decide +kernel) ⟨Nat.le_of_ble_eq_true rfl, Nat.le_of_ble_eq_true rfl⟩) (pre_V hnw hPc hKc hDc (ci := 3) (q0 := 0) rfl rfl) rfl rfl hl.1 rfl (lv_room (Nat.le_of_ble_eq_true rfl)) d_M_isWrong_189 ⟨Nat.le_of_ble_eq_true rfl, Nat.le_of_ble_eq_true rfl⟩) hS hFc hP hD [1, 2, 3] [0] (wr := [(bN, .inl (kN, 2, .inl (fun k => b2i (mi k))))]) rfl rfl (by decide) (by decide) (fun H locs hP hD hS => ?_)
                  have hP : va_P (dC, dI) classes [(bN, .inl (kN, 2, .inl (fun k => b2i (mi k)))), (bM, .inr (3, [.int cd, .int wd, .ref bT, .ref bF, .int al, .ref bN, .ref bP, .ref bQ, .ref bR, .int sz1, .int un, .int (b2i mo), .int tl, .int (b2i sp), .int tpo, .long fro, .int (b2i ly)])), (bP, .inl (kP, 2, .inl pw)), (bQ, .inl (kQ, 2, .inr (.inl pt)))] H := hP
                  have hD : va_D A [(bN, .inl (kN, 2, .inl (fun k => b2i (mi k)))), (bM, .inr (3, [.int cd, .int wd, .ref bT, .ref bF, .int al, .ref bN, .ref bP, .ref bQ, .ref bR, .int sz1, .int un, .int (b2i mo), .int tl, .int (b2i sp), .int tpo, .long fro, .int (b2i ly)])), (bP, .inl (kP, 2, .inl pw)), (bQ, .inl (kQ, 2, .inr (.inl pt)))] := hD
                  refine lv_if_eq (tgt := 199) hx hb d_M_isWrong_192 (by decide) (fun c_192 => ?_) (fun c_192 => ?_)
                  · skip
                    have c_192 : ¬ (g_M_isUnnormal pw pt 1) = true := b2i_z c_192
                    refine lv_iconst (v := 0) hx hb d_M_isWrong_199 (by decide) ?_
                    have hE : g_M_isWrong wd mi pw pt iop = (false) := by clear hP hD hl hS; subst ej16_0; unfold g_M_isWrong; (try dsimp only); rw [if_neg c_20, if_pos c_68, if_neg c_114, if_pos c_160, if_neg c_168, if_pos c_176, if_neg c_184, if_neg c_192]
                    have hP9 : va_P (dC, dI) classes [(bM, .inr (3, [.int cd, .int wd, .ref bT, .ref bF, .int al, .ref bN, .ref bP, .ref bQ, .ref bR, .int sz1, .int un, .int (b2i mo), .int tl, .int (b2i sp), .int tpo, .long fro, .int (b2i ly)])), (bN, .inl (kN, 2, .inl (fun k => b2i (mi k)))), (bP, .inl (kP, 2, .inl pw)), (bQ, .inl (kQ, 2, .inr (.inl pt)))] H := by exact hP.sub [1, 0, 2, 3] rfl
                    have hD9 : va_D A [(bM, .inr (3, [.int cd, .int wd, .ref bT, .ref bF, .int al, .ref bN, .ref bP, .ref bQ, .ref bR, .int sz1, .int un, .int (b2i mo), .int tl, .int (b2i sp), .int tpo, .long fro, .int (b2i ly)])), (bN, .inl (kN, 2, .inl (fun k => b2i (mi k)))), (bP, .inl (kP, 2, .inl pw)), (bQ, .inl (kQ, 2, .inr (.inl pt)))] := by exact hD.sub [1, 0, 2, 3] (by decide) rfl
                    exact W.zret (v := 0) hx hb hr (by first | exact nar_b2i _ | rfl) (fun t ht hW => ⟨⟨0, (), rfl, by rw [hE]; rfl, by rw [ht]; exact hP9, hD9⟩, hS.F ht⟩) hS.2.2 d_M_isWrong_200
                  · skip
                    have c_192 : (g_M_isUnnormal pw pt 1) = true := b2i_nz c_192
                    refine lv_iconst (v := 1) hx hb d_M_isWrong_195 (by decide) ?_
                    refine lv_goto (tgt := 200) hx hb d_M_isWrong_196 (by decide) ?_
                    have hE : g_M_isWrong wd mi pw pt iop = (true) := by clear hP hD hl hS; subst ej16_0; unfold g_M_isWrong; (try dsimp only); rw [if_neg c_20, if_pos c_68, if_neg c_114, if_pos c_160, if_neg c_168, if_pos c_176, if_neg c_184, if_pos c_192]
                    have hP9 : va_P (dC, dI) classes [(bM, .inr (3, [.int cd, .int wd, .ref bT, .ref bF, .int al, .ref bN, .ref bP, .ref bQ, .ref bR, .int sz1, .int un, .int (b2i mo), .int tl, .int (b2i sp), .int tpo, .long fro, .int (b2i ly)])), (bN, .inl (kN, 2, .inl (fun k => b2i (mi k)))), (bP, .inl (kP, 2, .inl pw)), (bQ, .inl (kQ, 2, .inr (.inl pt)))] H := by exact hP.sub [1, 0, 2, 3] rfl
                    have hD9 : va_D A [(bM, .inr (3, [.int cd, .int wd, .ref bT, .ref bF, .int al, .ref bN, .ref bP, .ref bQ, .ref bR, .int sz1, .int un, .int (b2i mo), .int tl, .int (b2i sp), .int tpo, .long fro, .int (b2i ly)])), (bN, .inl (kN, 2, .inl (fun k => b2i (mi k)))), (bP, .inl (kP, 2, .inl pw)), (bQ, .inl (kQ, 2, .inr (.inl pt)))] := by exact hD.sub [1, 0, 2, 3] (by decide) rfl
                    exact W.zret (v := 1) hx hb hr (by first | exact nar_b2i _ | rfl) (fun t ht hW => ⟨⟨1, (), rfl, by rw [hE]; rfl, by rw [ht]; exact hP9, hD9⟩, hS.F ht⟩) hS.2.2 d_M_isWrong_200
        · skip
          refine lv_aload_n hx hb d_M_isWrong_117 rfl (lv_at hl 1 rfl) ?_
          refine lv_iconst (v := 0) hx hb d_M_isWrong_118 (by decide) ?_
          have hPc := hP.sub (ws' := [(bM, .inr (3, [.int cd, .int wd, .ref bT, .ref bF, .int al, .ref bN, .ref bP, .ref bQ, .ref bR, .int sz1, .int un, .int (b2i mo), .int tl, .int (b2i sp), .int tpo, .long fro, .int (b2i ly)])), (bP, .inl (kP, 2, .inl pw)), (bQ, .inl (kQ, 2, .inr (.inl pt)))]) [0, 2, 3] rfl
          have hDc := hD.sub (ws' := [(bM, .inr (3, [.int cd, .int wd, .ref bT, .ref bF, .int al, .ref bN, .ref bP, .ref bQ, .ref bR, .int sz1, .int un, .int (b2i mo), .int tl, .int (b2i sp), .int tpo, .long fro, .int (b2i ly)])), (bP, .inl (kP, 2, .inl pw)), (bQ, .inl (kQ, 2, .inr (.inl pt)))]) [0, 2, 3] (by decide) rfl
          have hKc := hK.sub (tys' := [(kP, .int), (kQ, .long)]) [1, 2] rfl
          have hFc := va_free (wc := [(bM, .inr (3, [.int cd, .int wd, .ref bT, .ref bF, .int al, .ref bN, .ref bP, .ref bQ, .ref bR, .int sz1, .int un, .int (b2i mo), .int tl, .int (b2i sp), .int tpo, .long fro, .int (b2i ly)])), (bP, .inl (kP, 2, .inl pw)), (bQ, .inl (kQ, 2, .inr (.inl pt)))]) hD hS hA [0, 2, 3] rfl
          refine cc_i (va_runV (As := [.int 0]) (rest := []) ⟨hx, hb, hml, hown, htA⟩ (c_M_isEndless l dC dI kP kQ bM bP bQ bT bF bN bR H.size cd wd al sz1 un mo tl sp tpo fro ly pw pt 0 in2_0) (cwV 1 htA (gi_V k_342 k_343 k_344 k_263 (gi_code k_258)) rfl rfl rfl (by decide +kernel) ⟨Nat.le_of_ble_eq_true rfl, Nat.le_of_ble_eq_true rfl⟩) (pre_V hnw hPc hKc hDc (ci := 3) (q0 := 0) rfl rfl) rfl rfl hl.1 rfl (lv_room (Nat.le_of_ble_eq_true rfl)) d_M_isWrong_119 ⟨Nat.le_of_ble_eq_true rfl, Nat.le_of_ble_eq_true rfl⟩) hS hFc hP hD [0, 2, 3] [1] (wr := [(bN, .inl (kN, 2, .inl (fun k => b2i (mi k))))]) rfl rfl (by decide) (by decide) (fun H locs hP hD hS => ?_)
          have hP : va_P (dC, dI) classes [(bN, .inl (kN, 2, .inl (fun k => b2i (mi k)))), (bM, .inr (3, [.int cd, .int wd, .ref bT, .ref bF, .int al, .ref bN, .ref bP, .ref bQ, .ref bR, .int sz1, .int un, .int (b2i mo), .int tl, .int (b2i sp), .int tpo, .long fro, .int (b2i ly)])), (bP, .inl (kP, 2, .inl pw)), (bQ, .inl (kQ, 2, .inr (.inl pt)))] H := hP
          have hD : va_D A [(bN, .inl (kN, 2, .inl (fun k => b2i (mi k)))), (bM, .inr (3, [.int cd, .int wd, .ref bT, .ref bF, .int al, .ref bN, .ref bP, .ref bQ, .ref bR, .int sz1, .int un, .int (b2i mo), .int tl, .int (b2i sp), .int tpo, .long fro, .int (b2i ly)])), (bP, .inl (kP, 2, .inl pw)), (bQ, .inl (kQ, 2, .inr (.inl pt)))] := hD
          refine lv_if_eq (tgt := 133) hx hb d_M_isWrong_122 (by decide) (fun c_122 => ?_) (fun c_122 => ?_)
          · skip
            have c_122 : ¬ (g_M_isEndless pw pt 0) = true := b2i_z c_122
            refine lv_aload_n hx hb d_M_isWrong_133 rfl (lv_at hl 1 rfl) ?_
            refine lv_iconst (v := 0) hx hb d_M_isWrong_134 (by decide) ?_
            have hPc := hP.sub (ws' := [(bM, .inr (3, [.int cd, .int wd, .ref bT, .ref bF, .int al, .ref bN, .ref bP, .ref bQ, .ref bR, .int sz1, .int un, .int (b2i mo), .int tl, .int (b2i sp), .int tpo, .long fro, .int (b2i ly)])), (bP, .inl (kP, 2, .inl pw)), (bQ, .inl (kQ, 2, .inr (.inl pt)))]) [1, 2, 3] rfl
            have hDc := hD.sub (ws' := [(bM, .inr (3, [.int cd, .int wd, .ref bT, .ref bF, .int al, .ref bN, .ref bP, .ref bQ, .ref bR, .int sz1, .int un, .int (b2i mo), .int tl, .int (b2i sp), .int tpo, .long fro, .int (b2i ly)])), (bP, .inl (kP, 2, .inl pw)), (bQ, .inl (kQ, 2, .inr (.inl pt)))]) [1, 2, 3] (by decide) rfl
            have hKc := hK.sub (tys' := [(kP, .int), (kQ, .long)]) [1, 2] rfl
            have hFc := va_free (wc := [(bM, .inr (3, [.int cd, .int wd, .ref bT, .ref bF, .int al, .ref bN, .ref bP, .ref bQ, .ref bR, .int sz1, .int un, .int (b2i mo), .int tl, .int (b2i sp), .int tpo, .long fro, .int (b2i ly)])), (bP, .inl (kP, 2, .inl pw)), (bQ, .inl (kQ, 2, .inr (.inl pt)))]) hD hS hA [1, 2, 3] rfl
            refine cc_i (va_runV (As := [.int 0]) (rest := []) ⟨hx, hb, hml, hown, htA⟩ (c_M_isNothing l dC dI kP kQ bM bP bQ bT bF bN bR H.size cd wd al sz1 un mo tl sp tpo fro ly pw pt 0 in2_0) (cwV 1 htA (gi_V k_322 k_323 k_324 k_263 (gi_code k_259)) rfl rfl rfl (by decide +kernel) ⟨Nat.le_of_ble_eq_true rfl, Nat.le_of_ble_eq_true rfl⟩) (pre_V hnw hPc hKc hDc (ci := 3) (q0 := 0) rfl rfl) rfl rfl hl.1 rfl (lv_room (Nat.le_of_ble_eq_true rfl)) d_M_isWrong_135 ⟨Nat.le_of_ble_eq_true rfl, Nat.le_of_ble_eq_true rfl⟩) hS hFc hP hD [1, 2, 3] [0] (wr := [(bN, .inl (kN, 2, .inl (fun k => b2i (mi k))))]) rfl rfl (by decide) (by decide) (fun H locs hP hD hS => ?_)
            have hP : va_P (dC, dI) classes [(bN, .inl (kN, 2, .inl (fun k => b2i (mi k)))), (bM, .inr (3, [.int cd, .int wd, .ref bT, .ref bF, .int al, .ref bN, .ref bP, .ref bQ, .ref bR, .int sz1, .int un, .int (b2i mo), .int tl, .int (b2i sp), .int tpo, .long fro, .int (b2i ly)])), (bP, .inl (kP, 2, .inl pw)), (bQ, .inl (kQ, 2, .inr (.inl pt)))] H := hP
            have hD : va_D A [(bN, .inl (kN, 2, .inl (fun k => b2i (mi k)))), (bM, .inr (3, [.int cd, .int wd, .ref bT, .ref bF, .int al, .ref bN, .ref bP, .ref bQ, .ref bR, .int sz1, .int un, .int (b2i mo), .int tl, .int (b2i sp), .int tpo, .long fro, .int (b2i ly)])), (bP, .inl (kP, 2, .inl pw)), (bQ, .inl (kQ, 2, .inr (.inl pt)))] := hD
            refine lv_if_eq (tgt := 153) hx hb d_M_isWrong_138 (by decide) (fun c_138 => ?_) (fun c_138 => ?_)
            · skip
              have c_138 : ¬ (g_M_isNothing pw pt 0) = true := b2i_z c_138
              refine lv_iconst (v := 0) hx hb d_M_isWrong_153 (by decide) ?_
              have hE : g_M_isWrong wd mi pw pt iop = (false) := by clear hP hD hl hS; subst ej16_0; unfold g_M_isWrong; (try dsimp only); rw [if_neg c_20, if_pos c_68, if_pos c_114, if_neg c_122, if_neg c_138]
              have hP9 : va_P (dC, dI) classes [(bM, .inr (3, [.int cd, .int wd, .ref bT, .ref bF, .int al, .ref bN, .ref bP, .ref bQ, .ref bR, .int sz1, .int un, .int (b2i mo), .int tl, .int (b2i sp), .int tpo, .long fro, .int (b2i ly)])), (bN, .inl (kN, 2, .inl (fun k => b2i (mi k)))), (bP, .inl (kP, 2, .inl pw)), (bQ, .inl (kQ, 2, .inr (.inl pt)))] H := by exact hP.sub [1, 0, 2, 3] rfl
              have hD9 : va_D A [(bM, .inr (3, [.int cd, .int wd, .ref bT, .ref bF, .int al, .ref bN, .ref bP, .ref bQ, .ref bR, .int sz1, .int un, .int (b2i mo), .int tl, .int (b2i sp), .int tpo, .long fro, .int (b2i ly)])), (bN, .inl (kN, 2, .inl (fun k => b2i (mi k)))), (bP, .inl (kP, 2, .inl pw)), (bQ, .inl (kQ, 2, .inr (.inl pt)))] := by exact hD.sub [1, 0, 2, 3] (by decide) rfl
              exact W.zret (v := 0) hx hb hr (by first | exact nar_b2i _ | rfl) (fun t ht hW => ⟨⟨0, (), rfl, by rw [hE]; rfl, by rw [ht]; exact hP9, hD9⟩, hS.F ht⟩) hS.2.2 d_M_isWrong_154
            · skip
              have c_138 : (g_M_isNothing pw pt 0) = true := b2i_nz c_138
              refine lv_aload_n hx hb d_M_isWrong_141 rfl (lv_at hl 1 rfl) ?_
              refine lv_iconst (v := 1) hx hb d_M_isWrong_142 (by decide) ?_
              have hPc := hP.sub (ws' := [(bM, .inr (3, [.int cd, .int wd, .ref bT, .ref bF, .int al, .ref bN, .ref bP, .ref bQ, .ref bR, .int sz1, .int un, .int (b2i mo), .int tl, .int (b2i sp), .int tpo, .long fro, .int (b2i ly)])), (bP, .inl (kP, 2, .inl pw)), (bQ, .inl (kQ, 2, .inr (.inl pt)))]) [1, 2, 3] rfl
              have hDc := hD.sub (ws' := [(bM, .inr (3, [.int cd, .int wd, .ref bT, .ref bF, .int al, .ref bN, .ref bP, .ref bQ, .ref bR, .int sz1, .int un, .int (b2i mo), .int tl, .int (b2i sp), .int tpo, .long fro, .int (b2i ly)])), (bP, .inl (kP, 2, .inl pw)), (bQ, .inl (kQ, 2, .inr (.inl pt)))]) [1, 2, 3] (by decide) rfl
              have hKc := hK.sub (tys' := [(kP, .int), (kQ, .long)]) [1, 2] rfl
              have hFc := va_free (wc := [(bM, .inr (3, [.int cd, .int wd, .ref bT, .ref bF, .int al, .ref bN, .ref bP, .ref bQ, .ref bR, .int sz1, .int un, .int (b2i mo), .int tl, .int (b2i sp), .int tpo, .long fro, .int (b2i ly)])), (bP, .inl (kP, 2, .inl pw)), (bQ, .inl (kQ, 2, .inr (.inl pt)))]) hD hS hA [1, 2, 3] rfl
              refine cc_i (va_runV (As := [.int 1]) (rest := []) ⟨hx, hb, hml, hown, htA⟩ (c_M_isEndless l dC dI kP kQ bM bP bQ bT bF bN bR H.size cd wd al sz1 un mo tl sp tpo fro ly pw pt 1 in2_1) (cwV 1 htA (gi_V k_342 k_343 k_344 k_263 (gi_code k_258)) rfl rfl rfl (by decide +kernel) ⟨Nat.le_of_ble_eq_true rfl, Nat.le_of_ble_eq_true rfl⟩) (pre_V hnw hPc hKc hDc (ci := 3) (q0 := 0) rfl rfl) rfl rfl hl.1 rfl (lv_room (Nat.le_of_ble_eq_true rfl)) d_M_isWrong_143 ⟨Nat.le_of_ble_eq_true rfl, Nat.le_of_ble_eq_true rfl⟩) hS hFc hP hD [1, 2, 3] [0] (wr := [(bN, .inl (kN, 2, .inl (fun k => b2i (mi k))))]) rfl rfl (by decide) (by decide) (fun H locs hP hD hS => ?_)
              have hP : va_P (dC, dI) classes [(bN, .inl (kN, 2, .inl (fun k => b2i (mi k)))), (bM, .inr (3, [.int cd, .int wd, .ref bT, .ref bF, .int al, .ref bN, .ref bP, .ref bQ, .ref bR, .int sz1, .int un, .int (b2i mo), .int tl, .int (b2i sp), .int tpo, .long fro, .int (b2i ly)])), (bP, .inl (kP, 2, .inl pw)), (bQ, .inl (kQ, 2, .inr (.inl pt)))] H := hP
              have hD : va_D A [(bN, .inl (kN, 2, .inl (fun k => b2i (mi k)))), (bM, .inr (3, [.int cd, .int wd, .ref bT, .ref bF, .int al, .ref bN, .ref bP, .ref bQ, .ref bR, .int sz1, .int un, .int (b2i mo), .int tl, .int (b2i sp), .int tpo, .long fro, .int (b2i ly)])), (bP, .inl (kP, 2, .inl pw)), (bQ, .inl (kQ, 2, .inr (.inl pt)))] := hD
              refine lv_if_eq (tgt := 153) hx hb d_M_isWrong_146 (by decide) (fun c_146 => ?_) (fun c_146 => ?_)
              · skip
                have c_146 : ¬ (g_M_isEndless pw pt 1) = true := b2i_z c_146
                refine lv_iconst (v := 0) hx hb d_M_isWrong_153 (by decide) ?_
                have hE : g_M_isWrong wd mi pw pt iop = (false) := by clear hP hD hl hS; subst ej16_0; unfold g_M_isWrong; (try dsimp only); rw [if_neg c_20, if_pos c_68, if_pos c_114, if_neg c_122, if_pos c_138, if_neg c_146]
                have hP9 : va_P (dC, dI) classes [(bM, .inr (3, [.int cd, .int wd, .ref bT, .ref bF, .int al, .ref bN, .ref bP, .ref bQ, .ref bR, .int sz1, .int un, .int (b2i mo), .int tl, .int (b2i sp), .int tpo, .long fro, .int (b2i ly)])), (bN, .inl (kN, 2, .inl (fun k => b2i (mi k)))), (bP, .inl (kP, 2, .inl pw)), (bQ, .inl (kQ, 2, .inr (.inl pt)))] H := by exact hP.sub [1, 0, 2, 3] rfl
                have hD9 : va_D A [(bM, .inr (3, [.int cd, .int wd, .ref bT, .ref bF, .int al, .ref bN, .ref bP, .ref bQ, .ref bR, .int sz1, .int un, .int (b2i mo), .int tl, .int (b2i sp), .int tpo, .long fro, .int (b2i ly)])), (bN, .inl (kN, 2, .inl (fun k => b2i (mi k)))), (bP, .inl (kP, 2, .inl pw)), (bQ, .inl (kQ, 2, .inr (.inl pt)))] := by exact hD.sub [1, 0, 2, 3] (by decide) rfl
                exact W.zret (v := 0) hx hb hr (by first | exact nar_b2i _ | rfl) (fun t ht hW => ⟨⟨0, (), rfl, by rw [hE]; rfl, by rw [ht]; exact hP9, hD9⟩, hS.F ht⟩) hS.2.2 d_M_isWrong_154
              · skip
                have c_146 : (g_M_isEndless pw pt 1) = true := b2i_nz c_146
                refine lv_iconst (v := 1) hx hb d_M_isWrong_149 (by decide) ?_
                refine lv_goto (tgt := 154) hx hb d_M_isWrong_150 (by decide) ?_
                have hE : g_M_isWrong wd mi pw pt iop = (true) := by clear hP hD hl hS; subst ej16_0; unfold g_M_isWrong; (try dsimp only); rw [if_neg c_20, if_pos c_68, if_pos c_114, if_neg c_122, if_pos c_138, if_pos c_146]
                have hP9 : va_P (dC, dI) classes [(bM, .inr (3, [.int cd, .int wd, .ref bT, .ref bF, .int al, .ref bN, .ref bP, .ref bQ, .ref bR, .int sz1, .int un, .int (b2i mo), .int tl, .int (b2i sp), .int tpo, .long fro, .int (b2i ly)])), (bN, .inl (kN, 2, .inl (fun k => b2i (mi k)))), (bP, .inl (kP, 2, .inl pw)), (bQ, .inl (kQ, 2, .inr (.inl pt)))] H := by exact hP.sub [1, 0, 2, 3] rfl
                have hD9 : va_D A [(bM, .inr (3, [.int cd, .int wd, .ref bT, .ref bF, .int al, .ref bN, .ref bP, .ref bQ, .ref bR, .int sz1, .int un, .int (b2i mo), .int tl, .int (b2i sp), .int tpo, .long fro, .int (b2i ly)])), (bN, .inl (kN, 2, .inl (fun k => b2i (mi k)))), (bP, .inl (kP, 2, .inl pw)), (bQ, .inl (kQ, 2, .inr (.inl pt)))] := by exact hD.sub [1, 0, 2, 3] (by decide) rfl
                exact W.zret (v := 1) hx hb hr (by first | exact nar_b2i _ | rfl) (fun t ht hW => ⟨⟨1, (), rfl, by rw [hE]; rfl, by rw [ht]; exact hP9, hD9⟩, hS.F ht⟩) hS.2.2 d_M_isWrong_154
          · skip
            have c_122 : (g_M_isEndless pw pt 0) = true := b2i_nz c_122
            refine lv_aload_n hx hb d_M_isWrong_125 rfl (lv_at hl 1 rfl) ?_
            refine lv_iconst (v := 1) hx hb d_M_isWrong_126 (by decide) ?_
            have hPc := hP.sub (ws' := [(bM, .inr (3, [.int cd, .int wd, .ref bT, .ref bF, .int al, .ref bN, .ref bP, .ref bQ, .ref bR, .int sz1, .int un, .int (b2i mo), .int tl, .int (b2i sp), .int tpo, .long fro, .int (b2i ly)])), (bP, .inl (kP, 2, .inl pw)), (bQ, .inl (kQ, 2, .inr (.inl pt)))]) [1, 2, 3] rfl
            have hDc := hD.sub (ws' := [(bM, .inr (3, [.int cd, .int wd, .ref bT, .ref bF, .int al, .ref bN, .ref bP, .ref bQ, .ref bR, .int sz1, .int un, .int (b2i mo), .int tl, .int (b2i sp), .int tpo, .long fro, .int (b2i ly)])), (bP, .inl (kP, 2, .inl pw)), (bQ, .inl (kQ, 2, .inr (.inl pt)))]) [1, 2, 3] (by decide) rfl
            have hKc := hK.sub (tys' := [(kP, .int), (kQ, .long)]) [1, 2] rfl
            have hFc := va_free (wc := [(bM, .inr (3, [.int cd, .int wd, .ref bT, .ref bF, .int al, .ref bN, .ref bP, .ref bQ, .ref bR, .int sz1, .int un, .int (b2i mo), .int tl, .int (b2i sp), .int tpo, .long fro, .int (b2i ly)])), (bP, .inl (kP, 2, .inl pw)), (bQ, .inl (kQ, 2, .inr (.inl pt)))]) hD hS hA [1, 2, 3] rfl
            refine cc_i (va_runV (As := [.int 1]) (rest := []) ⟨hx, hb, hml, hown, htA⟩ (c_M_isNothing l dC dI kP kQ bM bP bQ bT bF bN bR H.size cd wd al sz1 un mo tl sp tpo fro ly pw pt 1 in2_1) (cwV 1 htA (gi_V k_322 k_323 k_324 k_263 (gi_code k_259)) rfl rfl rfl (by decide +kernel) ⟨Nat.le_of_ble_eq_true rfl, Nat.le_of_ble_eq_true rfl⟩) (pre_V hnw hPc hKc hDc (ci := 3) (q0 := 0) rfl rfl) rfl rfl hl.1 rfl (lv_room (Nat.le_of_ble_eq_true rfl)) d_M_isWrong_127 ⟨Nat.le_of_ble_eq_true rfl, Nat.le_of_ble_eq_true rfl⟩) hS hFc hP hD [1, 2, 3] [0] (wr := [(bN, .inl (kN, 2, .inl (fun k => b2i (mi k))))]) rfl rfl (by decide) (by decide) (fun H locs hP hD hS => ?_)
            have hP : va_P (dC, dI) classes [(bN, .inl (kN, 2, .inl (fun k => b2i (mi k)))), (bM, .inr (3, [.int cd, .int wd, .ref bT, .ref bF, .int al, .ref bN, .ref bP, .ref bQ, .ref bR, .int sz1, .int un, .int (b2i mo), .int tl, .int (b2i sp), .int tpo, .long fro, .int (b2i ly)])), (bP, .inl (kP, 2, .inl pw)), (bQ, .inl (kQ, 2, .inr (.inl pt)))] H := hP
            have hD : va_D A [(bN, .inl (kN, 2, .inl (fun k => b2i (mi k)))), (bM, .inr (3, [.int cd, .int wd, .ref bT, .ref bF, .int al, .ref bN, .ref bP, .ref bQ, .ref bR, .int sz1, .int un, .int (b2i mo), .int tl, .int (b2i sp), .int tpo, .long fro, .int (b2i ly)])), (bP, .inl (kP, 2, .inl pw)), (bQ, .inl (kQ, 2, .inr (.inl pt)))] := hD
            refine lv_if_ne (tgt := 149) hx hb d_M_isWrong_130 (by decide) (fun c_130 => ?_) (fun c_130 => ?_)
            · skip
              have c_130 : (g_M_isNothing pw pt 1) = true := b2i_nz c_130
              refine lv_iconst (v := 1) hx hb d_M_isWrong_149 (by decide) ?_
              refine lv_goto (tgt := 154) hx hb d_M_isWrong_150 (by decide) ?_
              have hE : g_M_isWrong wd mi pw pt iop = (true) := by clear hP hD hl hS; subst ej16_0; unfold g_M_isWrong; (try dsimp only); rw [if_neg c_20, if_pos c_68, if_pos c_114, if_pos c_122, if_pos c_130]
              have hP9 : va_P (dC, dI) classes [(bM, .inr (3, [.int cd, .int wd, .ref bT, .ref bF, .int al, .ref bN, .ref bP, .ref bQ, .ref bR, .int sz1, .int un, .int (b2i mo), .int tl, .int (b2i sp), .int tpo, .long fro, .int (b2i ly)])), (bN, .inl (kN, 2, .inl (fun k => b2i (mi k)))), (bP, .inl (kP, 2, .inl pw)), (bQ, .inl (kQ, 2, .inr (.inl pt)))] H := by exact hP.sub [1, 0, 2, 3] rfl
              have hD9 : va_D A [(bM, .inr (3, [.int cd, .int wd, .ref bT, .ref bF, .int al, .ref bN, .ref bP, .ref bQ, .ref bR, .int sz1, .int un, .int (b2i mo), .int tl, .int (b2i sp), .int tpo, .long fro, .int (b2i ly)])), (bN, .inl (kN, 2, .inl (fun k => b2i (mi k)))), (bP, .inl (kP, 2, .inl pw)), (bQ, .inl (kQ, 2, .inr (.inl pt)))] := by exact hD.sub [1, 0, 2, 3] (by decide) rfl
              exact W.zret (v := 1) hx hb hr (by first | exact nar_b2i _ | rfl) (fun t ht hW => ⟨⟨1, (), rfl, by rw [hE]; rfl, by rw [ht]; exact hP9, hD9⟩, hS.F ht⟩) hS.2.2 d_M_isWrong_154
            · skip
              have c_130 : ¬ (g_M_isNothing pw pt 1) = true := b2i_z c_130
              refine lv_aload_n hx hb d_M_isWrong_133 rfl (lv_at hl 1 rfl) ?_
              refine lv_iconst (v := 0) hx hb d_M_isWrong_134 (by decide) ?_
              have hPc := hP.sub (ws' := [(bM, .inr (3, [.int cd, .int wd, .ref bT, .ref bF, .int al, .ref bN, .ref bP, .ref bQ, .ref bR, .int sz1, .int un, .int (b2i mo), .int tl, .int (b2i sp), .int tpo, .long fro, .int (b2i ly)])), (bP, .inl (kP, 2, .inl pw)), (bQ, .inl (kQ, 2, .inr (.inl pt)))]) [1, 2, 3] rfl
              have hDc := hD.sub (ws' := [(bM, .inr (3, [.int cd, .int wd, .ref bT, .ref bF, .int al, .ref bN, .ref bP, .ref bQ, .ref bR, .int sz1, .int un, .int (b2i mo), .int tl, .int (b2i sp), .int tpo, .long fro, .int (b2i ly)])), (bP, .inl (kP, 2, .inl pw)), (bQ, .inl (kQ, 2, .inr (.inl pt)))]) [1, 2, 3] (by decide) rfl
              have hKc := hK.sub (tys' := [(kP, .int), (kQ, .long)]) [1, 2] rfl
              have hFc := va_free (wc := [(bM, .inr (3, [.int cd, .int wd, .ref bT, .ref bF, .int al, .ref bN, .ref bP, .ref bQ, .ref bR, .int sz1, .int un, .int (b2i mo), .int tl, .int (b2i sp), .int tpo, .long fro, .int (b2i ly)])), (bP, .inl (kP, 2, .inl pw)), (bQ, .inl (kQ, 2, .inr (.inl pt)))]) hD hS hA [1, 2, 3] rfl
              refine cc_i (va_runV (As := [.int 0]) (rest := []) ⟨hx, hb, hml, hown, htA⟩ (c_M_isNothing l dC dI kP kQ bM bP bQ bT bF bN bR H.size cd wd al sz1 un mo tl sp tpo fro ly pw pt 0 in2_0) (cwV 1 htA (gi_V k_322 k_323 k_324 k_263 (gi_code k_259)) rfl rfl rfl (by decide +kernel) ⟨Nat.le_of_ble_eq_true rfl, Nat.le_of_ble_eq_true rfl⟩) (pre_V hnw hPc hKc hDc (ci := 3) (q0 := 0) rfl rfl) rfl rfl hl.1 rfl (lv_room (Nat.le_of_ble_eq_true rfl)) d_M_isWrong_135 ⟨Nat.le_of_ble_eq_true rfl, Nat.le_of_ble_eq_true rfl⟩) hS hFc hP hD [1, 2, 3] [0] (wr := [(bN, .inl (kN, 2, .inl (fun k => b2i (mi k))))]) rfl rfl (by decide) (by decide) (fun H locs hP hD hS => ?_)
              have hP : va_P (dC, dI) classes [(bN, .inl (kN, 2, .inl (fun k => b2i (mi k)))), (bM, .inr (3, [.int cd, .int wd, .ref bT, .ref bF, .int al, .ref bN, .ref bP, .ref bQ, .ref bR, .int sz1, .int un, .int (b2i mo), .int tl, .int (b2i sp), .int tpo, .long fro, .int (b2i ly)])), (bP, .inl (kP, 2, .inl pw)), (bQ, .inl (kQ, 2, .inr (.inl pt)))] H := hP
              have hD : va_D A [(bN, .inl (kN, 2, .inl (fun k => b2i (mi k)))), (bM, .inr (3, [.int cd, .int wd, .ref bT, .ref bF, .int al, .ref bN, .ref bP, .ref bQ, .ref bR, .int sz1, .int un, .int (b2i mo), .int tl, .int (b2i sp), .int tpo, .long fro, .int (b2i ly)])), (bP, .inl (kP, 2, .inl pw)), (bQ, .inl (kQ, 2, .inr (.inl pt)))] := hD
              refine lv_if_eq (tgt := 153) hx hb d_M_isWrong_138 (by decide) (fun c_138 => ?_) (fun c_138 => ?_)
              · skip
                have c_138 : ¬ (g_M_isNothing pw pt 0) = true := b2i_z c_138
                refine lv_iconst (v := 0) hx hb d_M_isWrong_153 (by decide) ?_
                have hE : g_M_isWrong wd mi pw pt iop = (false) := by clear hP hD hl hS; subst ej16_0; unfold g_M_isWrong; (try dsimp only); rw [if_neg c_20, if_pos c_68, if_pos c_114, if_pos c_122, if_neg c_130, if_neg c_138]
                have hP9 : va_P (dC, dI) classes [(bM, .inr (3, [.int cd, .int wd, .ref bT, .ref bF, .int al, .ref bN, .ref bP, .ref bQ, .ref bR, .int sz1, .int un, .int (b2i mo), .int tl, .int (b2i sp), .int tpo, .long fro, .int (b2i ly)])), (bN, .inl (kN, 2, .inl (fun k => b2i (mi k)))), (bP, .inl (kP, 2, .inl pw)), (bQ, .inl (kQ, 2, .inr (.inl pt)))] H := by exact hP.sub [1, 0, 2, 3] rfl
                have hD9 : va_D A [(bM, .inr (3, [.int cd, .int wd, .ref bT, .ref bF, .int al, .ref bN, .ref bP, .ref bQ, .ref bR, .int sz1, .int un, .int (b2i mo), .int tl, .int (b2i sp), .int tpo, .long fro, .int (b2i ly)])), (bN, .inl (kN, 2, .inl (fun k => b2i (mi k)))), (bP, .inl (kP, 2, .inl pw)), (bQ, .inl (kQ, 2, .inr (.inl pt)))] := by exact hD.sub [1, 0, 2, 3] (by decide) rfl
                exact W.zret (v := 0) hx hb hr (by first | exact nar_b2i _ | rfl) (fun t ht hW => ⟨⟨0, (), rfl, by rw [hE]; rfl, by rw [ht]; exact hP9, hD9⟩, hS.F ht⟩) hS.2.2 d_M_isWrong_154
              · skip
                have c_138 : (g_M_isNothing pw pt 0) = true := b2i_nz c_138
                refine lv_aload_n hx hb d_M_isWrong_141 rfl (lv_at hl 1 rfl) ?_
                refine lv_iconst (v := 1) hx hb d_M_isWrong_142 (by decide) ?_
                have hPc := hP.sub (ws' := [(bM, .inr (3, [.int cd, .int wd, .ref bT, .ref bF, .int al, .ref bN, .ref bP, .ref bQ, .ref bR, .int sz1, .int un, .int (b2i mo), .int tl, .int (b2i sp), .int tpo, .long fro, .int (b2i ly)])), (bP, .inl (kP, 2, .inl pw)), (bQ, .inl (kQ, 2, .inr (.inl pt)))]) [1, 2, 3] rfl
                have hDc := hD.sub (ws' := [(bM, .inr (3, [.int cd, .int wd, .ref bT, .ref bF, .int al, .ref bN, .ref bP, .ref bQ, .ref bR, .int sz1, .int un, .int (b2i mo), .int tl, .int (b2i sp), .int tpo, .long fro, .int (b2i ly)])), (bP, .inl (kP, 2, .inl pw)), (bQ, .inl (kQ, 2, .inr (.inl pt)))]) [1, 2, 3] (by decide) rfl
                have hKc := hK.sub (tys' := [(kP, .int), (kQ, .long)]) [1, 2] rfl
                have hFc := va_free (wc := [(bM, .inr (3, [.int cd, .int wd, .ref bT, .ref bF, .int al, .ref bN, .ref bP, .ref bQ, .ref bR, .int sz1, .int un, .int (b2i mo), .int tl, .int (b2i sp), .int tpo, .long fro, .int (b2i ly)])), (bP, .inl (kP, 2, .inl pw)), (bQ, .inl (kQ, 2, .inr (.inl pt)))]) hD hS hA [1, 2, 3] rfl
                refine cc_i (va_runV (As := [.int 1]) (rest := []) ⟨hx, hb, hml, hown, htA⟩ (c_M_isEndless l dC dI kP kQ bM bP bQ bT bF bN bR H.size cd wd al sz1 un mo tl sp tpo fro ly pw pt 1 in2_1) (cwV 1 htA (gi_V k_342 k_343 k_344 k_263 (gi_code k_258)) rfl rfl rfl (by decide +kernel) ⟨Nat.le_of_ble_eq_true rfl, Nat.le_of_ble_eq_true rfl⟩) (pre_V hnw hPc hKc hDc (ci := 3) (q0 := 0) rfl rfl) rfl rfl hl.1 rfl (lv_room (Nat.le_of_ble_eq_true rfl)) d_M_isWrong_143 ⟨Nat.le_of_ble_eq_true rfl, Nat.le_of_ble_eq_true rfl⟩) hS hFc hP hD [1, 2, 3] [0] (wr := [(bN, .inl (kN, 2, .inl (fun k => b2i (mi k))))]) rfl rfl (by decide) (by decide) (fun H locs hP hD hS => ?_)
                have hP : va_P (dC, dI) classes [(bN, .inl (kN, 2, .inl (fun k => b2i (mi k)))), (bM, .inr (3, [.int cd, .int wd, .ref bT, .ref bF, .int al, .ref bN, .ref bP, .ref bQ, .ref bR, .int sz1, .int un, .int (b2i mo), .int tl, .int (b2i sp), .int tpo, .long fro, .int (b2i ly)])), (bP, .inl (kP, 2, .inl pw)), (bQ, .inl (kQ, 2, .inr (.inl pt)))] H := hP
                have hD : va_D A [(bN, .inl (kN, 2, .inl (fun k => b2i (mi k)))), (bM, .inr (3, [.int cd, .int wd, .ref bT, .ref bF, .int al, .ref bN, .ref bP, .ref bQ, .ref bR, .int sz1, .int un, .int (b2i mo), .int tl, .int (b2i sp), .int tpo, .long fro, .int (b2i ly)])), (bP, .inl (kP, 2, .inl pw)), (bQ, .inl (kQ, 2, .inr (.inl pt)))] := hD
                refine lv_if_eq (tgt := 153) hx hb d_M_isWrong_146 (by decide) (fun c_146 => ?_) (fun c_146 => ?_)
                · skip
                  have c_146 : ¬ (g_M_isEndless pw pt 1) = true := b2i_z c_146
                  refine lv_iconst (v := 0) hx hb d_M_isWrong_153 (by decide) ?_
                  have hE : g_M_isWrong wd mi pw pt iop = (false) := by clear hP hD hl hS; subst ej16_0; unfold g_M_isWrong; (try dsimp only); rw [if_neg c_20, if_pos c_68, if_pos c_114, if_pos c_122, if_neg c_130, if_pos c_138, if_neg c_146]
                  have hP9 : va_P (dC, dI) classes [(bM, .inr (3, [.int cd, .int wd, .ref bT, .ref bF, .int al, .ref bN, .ref bP, .ref bQ, .ref bR, .int sz1, .int un, .int (b2i mo), .int tl, .int (b2i sp), .int tpo, .long fro, .int (b2i ly)])), (bN, .inl (kN, 2, .inl (fun k => b2i (mi k)))), (bP, .inl (kP, 2, .inl pw)), (bQ, .inl (kQ, 2, .inr (.inl pt)))] H := by exact hP.sub [1, 0, 2, 3] rfl
                  have hD9 : va_D A [(bM, .inr (3, [.int cd, .int wd, .ref bT, .ref bF, .int al, .ref bN, .ref bP, .ref bQ, .ref bR, .int sz1, .int un, .int (b2i mo), .int tl, .int (b2i sp), .int tpo, .long fro, .int (b2i ly)])), (bN, .inl (kN, 2, .inl (fun k => b2i (mi k)))), (bP, .inl (kP, 2, .inl pw)), (bQ, .inl (kQ, 2, .inr (.inl pt)))] := by exact hD.sub [1, 0, 2, 3] (by decide) rfl
                  exact W.zret (v := 0) hx hb hr (by first | exact nar_b2i _ | rfl) (fun t ht hW => ⟨⟨0, (), rfl, by rw [hE]; rfl, by rw [ht]; exact hP9, hD9⟩, hS.F ht⟩) hS.2.2 d_M_isWrong_154
                · skip
                  have c_146 : (g_M_isEndless pw pt 1) = true := b2i_nz c_146
                  refine lv_iconst (v := 1) hx hb d_M_isWrong_149 (by decide) ?_
                  refine lv_goto (tgt := 154) hx hb d_M_isWrong_150 (by decide) ?_
                  have hE : g_M_isWrong wd mi pw pt iop = (true) := by clear hP hD hl hS; subst ej16_0; unfold g_M_isWrong; (try dsimp only); rw [if_neg c_20, if_pos c_68, if_pos c_114, if_pos c_122, if_neg c_130, if_pos c_138, if_pos c_146]
                  have hP9 : va_P (dC, dI) classes [(bM, .inr (3, [.int cd, .int wd, .ref bT, .ref bF, .int al, .ref bN, .ref bP, .ref bQ, .ref bR, .int sz1, .int un, .int (b2i mo), .int tl, .int (b2i sp), .int tpo, .long fro, .int (b2i ly)])), (bN, .inl (kN, 2, .inl (fun k => b2i (mi k)))), (bP, .inl (kP, 2, .inl pw)), (bQ, .inl (kQ, 2, .inr (.inl pt)))] H := by exact hP.sub [1, 0, 2, 3] rfl
                  have hD9 : va_D A [(bM, .inr (3, [.int cd, .int wd, .ref bT, .ref bF, .int al, .ref bN, .ref bP, .ref bQ, .ref bR, .int sz1, .int un, .int (b2i mo), .int tl, .int (b2i sp), .int tpo, .long fro, .int (b2i ly)])), (bN, .inl (kN, 2, .inl (fun k => b2i (mi k)))), (bP, .inl (kP, 2, .inl pw)), (bQ, .inl (kQ, 2, .inr (.inl pt)))] := by exact hD.sub [1, 0, 2, 3] (by decide) rfl
                  exact W.zret (v := 1) hx hb hr (by first | exact nar_b2i _ | rfl) (fun t ht hW => ⟨⟨1, (), rfl, by rw [hE]; rfl, by rw [ht]; exact hP9, hD9⟩, hS.F ht⟩) hS.2.2 d_M_isWrong_154
      · skip
        refine lv_aload_n hx hb d_M_isWrong_71 rfl (lv_at hl 1 rfl) ?_
        refine lv_iconst (v := 0) hx hb d_M_isWrong_72 (by decide) ?_
        have hPc := hP.sub (ws' := [(bM, .inr (3, [.int cd, .int wd, .ref bT, .ref bF, .int al, .ref bN, .ref bP, .ref bQ, .ref bR, .int sz1, .int un, .int (b2i mo), .int tl, .int (b2i sp), .int tpo, .long fro, .int (b2i ly)])), (bP, .inl (kP, 2, .inl pw)), (bQ, .inl (kQ, 2, .inr (.inl pt)))]) [0, 2, 3] rfl
        have hDc := hD.sub (ws' := [(bM, .inr (3, [.int cd, .int wd, .ref bT, .ref bF, .int al, .ref bN, .ref bP, .ref bQ, .ref bR, .int sz1, .int un, .int (b2i mo), .int tl, .int (b2i sp), .int tpo, .long fro, .int (b2i ly)])), (bP, .inl (kP, 2, .inl pw)), (bQ, .inl (kQ, 2, .inr (.inl pt)))]) [0, 2, 3] (by decide) rfl
        have hKc := hK.sub (tys' := [(kP, .int), (kQ, .long)]) [1, 2] rfl
        have hFc := va_free (wc := [(bM, .inr (3, [.int cd, .int wd, .ref bT, .ref bF, .int al, .ref bN, .ref bP, .ref bQ, .ref bR, .int sz1, .int un, .int (b2i mo), .int tl, .int (b2i sp), .int tpo, .long fro, .int (b2i ly)])), (bP, .inl (kP, 2, .inl pw)), (bQ, .inl (kQ, 2, .inr (.inl pt)))]) hD hS hA [0, 2, 3] rfl
        refine cc_i (va_runV (As := [.int 0]) (rest := []) ⟨hx, hb, hml, hown, htA⟩ (c_M_isEndless l dC dI kP kQ bM bP bQ bT bF bN bR H.size cd wd al sz1 un mo tl sp tpo fro ly pw pt 0 in2_0) (cwV 1 htA (gi_V k_342 k_343 k_344 k_263 (gi_code k_258)) rfl rfl rfl (by decide +kernel) ⟨Nat.le_of_ble_eq_true rfl, Nat.le_of_ble_eq_true rfl⟩) (pre_V hnw hPc hKc hDc (ci := 3) (q0 := 0) rfl rfl) rfl rfl hl.1 rfl (lv_room (Nat.le_of_ble_eq_true rfl)) d_M_isWrong_73 ⟨Nat.le_of_ble_eq_true rfl, Nat.le_of_ble_eq_true rfl⟩) hS hFc hP hD [0, 2, 3] [1] (wr := [(bN, .inl (kN, 2, .inl (fun k => b2i (mi k))))]) rfl rfl (by decide) (by decide) (fun H locs hP hD hS => ?_)
        have hP : va_P (dC, dI) classes [(bN, .inl (kN, 2, .inl (fun k => b2i (mi k)))), (bM, .inr (3, [.int cd, .int wd, .ref bT, .ref bF, .int al, .ref bN, .ref bP, .ref bQ, .ref bR, .int sz1, .int un, .int (b2i mo), .int tl, .int (b2i sp), .int tpo, .long fro, .int (b2i ly)])), (bP, .inl (kP, 2, .inl pw)), (bQ, .inl (kQ, 2, .inr (.inl pt)))] H := hP
        have hD : va_D A [(bN, .inl (kN, 2, .inl (fun k => b2i (mi k)))), (bM, .inr (3, [.int cd, .int wd, .ref bT, .ref bF, .int al, .ref bN, .ref bP, .ref bQ, .ref bR, .int sz1, .int un, .int (b2i mo), .int tl, .int (b2i sp), .int tpo, .long fro, .int (b2i ly)])), (bP, .inl (kP, 2, .inl pw)), (bQ, .inl (kQ, 2, .inr (.inl pt)))] := hD
        refine lv_if_eq (tgt := 110) hx hb d_M_isWrong_76 (by decide) (fun c_76 => ?_) (fun c_76 => ?_)
        · skip
          have c_76 : ¬ (g_M_isEndless pw pt 0) = true := b2i_z c_76
          refine lv_iconst (v := 0) hx hb d_M_isWrong_110 (by decide) ?_
          have hE : g_M_isWrong wd mi pw pt iop = (false) := by clear hP hD hl hS; subst ej16_0; unfold g_M_isWrong; (try dsimp only); rw [if_neg c_20, if_neg c_68, if_neg c_76]
          have hP9 : va_P (dC, dI) classes [(bM, .inr (3, [.int cd, .int wd, .ref bT, .ref bF, .int al, .ref bN, .ref bP, .ref bQ, .ref bR, .int sz1, .int un, .int (b2i mo), .int tl, .int (b2i sp), .int tpo, .long fro, .int (b2i ly)])), (bN, .inl (kN, 2, .inl (fun k => b2i (mi k)))), (bP, .inl (kP, 2, .inl pw)), (bQ, .inl (kQ, 2, .inr (.inl pt)))] H := by exact hP.sub [1, 0, 2, 3] rfl
          have hD9 : va_D A [(bM, .inr (3, [.int cd, .int wd, .ref bT, .ref bF, .int al, .ref bN, .ref bP, .ref bQ, .ref bR, .int sz1, .int un, .int (b2i mo), .int tl, .int (b2i sp), .int tpo, .long fro, .int (b2i ly)])), (bN, .inl (kN, 2, .inl (fun k => b2i (mi k)))), (bP, .inl (kP, 2, .inl pw)), (bQ, .inl (kQ, 2, .inr (.inl pt)))] := by exact hD.sub [1, 0, 2, 3] (by decide) rfl
          exact W.zret (v := 0) hx hb hr (by first | exact nar_b2i _ | rfl) (fun t ht hW => ⟨⟨0, (), rfl, by rw [hE]; rfl, by rw [ht]; exact hP9, hD9⟩, hS.F ht⟩) hS.2.2 d_M_isWrong_111
        · skip
          have c_76 : (g_M_isEndless pw pt 0) = true := b2i_nz c_76
          refine lv_aload_n hx hb d_M_isWrong_79 rfl (lv_at hl 1 rfl) ?_
          refine lv_iconst (v := 1) hx hb d_M_isWrong_80 (by decide) ?_
          have hPc := hP.sub (ws' := [(bM, .inr (3, [.int cd, .int wd, .ref bT, .ref bF, .int al, .ref bN, .ref bP, .ref bQ, .ref bR, .int sz1, .int un, .int (b2i mo), .int tl, .int (b2i sp), .int tpo, .long fro, .int (b2i ly)])), (bP, .inl (kP, 2, .inl pw)), (bQ, .inl (kQ, 2, .inr (.inl pt)))]) [1, 2, 3] rfl
          have hDc := hD.sub (ws' := [(bM, .inr (3, [.int cd, .int wd, .ref bT, .ref bF, .int al, .ref bN, .ref bP, .ref bQ, .ref bR, .int sz1, .int un, .int (b2i mo), .int tl, .int (b2i sp), .int tpo, .long fro, .int (b2i ly)])), (bP, .inl (kP, 2, .inl pw)), (bQ, .inl (kQ, 2, .inr (.inl pt)))]) [1, 2, 3] (by decide) rfl
          have hKc := hK.sub (tys' := [(kP, .int), (kQ, .long)]) [1, 2] rfl
          have hFc := va_free (wc := [(bM, .inr (3, [.int cd, .int wd, .ref bT, .ref bF, .int al, .ref bN, .ref bP, .ref bQ, .ref bR, .int sz1, .int un, .int (b2i mo), .int tl, .int (b2i sp), .int tpo, .long fro, .int (b2i ly)])), (bP, .inl (kP, 2, .inl pw)), (bQ, .inl (kQ, 2, .inr (.inl pt)))]) hD hS hA [1, 2, 3] rfl
          refine cc_i (va_runV (As := [.int 1]) (rest := []) ⟨hx, hb, hml, hown, htA⟩ (c_M_isEndless l dC dI kP kQ bM bP bQ bT bF bN bR H.size cd wd al sz1 un mo tl sp tpo fro ly pw pt 1 in2_1) (cwV 1 htA (gi_V k_342 k_343 k_344 k_263 (gi_code k_258)) rfl rfl rfl (by decide +kernel) ⟨Nat.le_of_ble_eq_true rfl, Nat.le_of_ble_eq_true rfl⟩) (pre_V hnw hPc hKc hDc (ci := 3) (q0 := 0) rfl rfl) rfl rfl hl.1 rfl (lv_room (Nat.le_of_ble_eq_true rfl)) d_M_isWrong_81 ⟨Nat.le_of_ble_eq_true rfl, Nat.le_of_ble_eq_true rfl⟩) hS hFc hP hD [1, 2, 3] [0] (wr := [(bN, .inl (kN, 2, .inl (fun k => b2i (mi k))))]) rfl rfl (by decide) (by decide) (fun H locs hP hD hS => ?_)
          have hP : va_P (dC, dI) classes [(bN, .inl (kN, 2, .inl (fun k => b2i (mi k)))), (bM, .inr (3, [.int cd, .int wd, .ref bT, .ref bF, .int al, .ref bN, .ref bP, .ref bQ, .ref bR, .int sz1, .int un, .int (b2i mo), .int tl, .int (b2i sp), .int tpo, .long fro, .int (b2i ly)])), (bP, .inl (kP, 2, .inl pw)), (bQ, .inl (kQ, 2, .inr (.inl pt)))] H := hP
          have hD : va_D A [(bN, .inl (kN, 2, .inl (fun k => b2i (mi k)))), (bM, .inr (3, [.int cd, .int wd, .ref bT, .ref bF, .int al, .ref bN, .ref bP, .ref bQ, .ref bR, .int sz1, .int un, .int (b2i mo), .int tl, .int (b2i sp), .int tpo, .long fro, .int (b2i ly)])), (bP, .inl (kP, 2, .inl pw)), (bQ, .inl (kQ, 2, .inr (.inl pt)))] := hD
          refine lv_if_eq (tgt := 110) hx hb d_M_isWrong_84 (by decide) (fun c_84 => ?_) (fun c_84 => ?_)
          · skip
            have c_84 : ¬ (g_M_isEndless pw pt 1) = true := b2i_z c_84
            refine lv_iconst (v := 0) hx hb d_M_isWrong_110 (by decide) ?_
            have hE : g_M_isWrong wd mi pw pt iop = (false) := by clear hP hD hl hS; subst ej16_0; unfold g_M_isWrong; (try dsimp only); rw [if_neg c_20, if_neg c_68, if_pos c_76, if_neg c_84]
            have hP9 : va_P (dC, dI) classes [(bM, .inr (3, [.int cd, .int wd, .ref bT, .ref bF, .int al, .ref bN, .ref bP, .ref bQ, .ref bR, .int sz1, .int un, .int (b2i mo), .int tl, .int (b2i sp), .int tpo, .long fro, .int (b2i ly)])), (bN, .inl (kN, 2, .inl (fun k => b2i (mi k)))), (bP, .inl (kP, 2, .inl pw)), (bQ, .inl (kQ, 2, .inr (.inl pt)))] H := by exact hP.sub [1, 0, 2, 3] rfl
            have hD9 : va_D A [(bM, .inr (3, [.int cd, .int wd, .ref bT, .ref bF, .int al, .ref bN, .ref bP, .ref bQ, .ref bR, .int sz1, .int un, .int (b2i mo), .int tl, .int (b2i sp), .int tpo, .long fro, .int (b2i ly)])), (bN, .inl (kN, 2, .inl (fun k => b2i (mi k)))), (bP, .inl (kP, 2, .inl pw)), (bQ, .inl (kQ, 2, .inr (.inl pt)))] := by exact hD.sub [1, 0, 2, 3] (by decide) rfl
            exact W.zret (v := 0) hx hb hr (by first | exact nar_b2i _ | rfl) (fun t ht hW => ⟨⟨0, (), rfl, by rw [hE]; rfl, by rw [ht]; exact hP9, hD9⟩, hS.F ht⟩) hS.2.2 d_M_isWrong_111
          · skip
            have c_84 : (g_M_isEndless pw pt 1) = true := b2i_nz c_84
            refine lv_iload_n hx hb d_M_isWrong_87 rfl (lv_at hl 0 rfl) ?_
            refine lv_if_ne (tgt := 106) hx hb d_M_isWrong_88 (by decide) (fun c_88 => ?_) (fun c_88 => ?_)
            · skip
              have c_88 : j16_0 = true := b2i_nz c_88
              refine lv_iconst (v := 1) hx hb d_M_isWrong_106 (by decide) ?_
              refine lv_goto (tgt := 111) hx hb d_M_isWrong_107 (by decide) ?_
              have hE : g_M_isWrong wd mi pw pt iop = (true) := by clear hP hD hl hS; subst ej16_0; unfold g_M_isWrong; (try dsimp only); rw [if_neg c_20, if_neg c_68, if_pos c_76, if_pos c_84, if_pos c_88]
              have hP9 : va_P (dC, dI) classes [(bM, .inr (3, [.int cd, .int wd, .ref bT, .ref bF, .int al, .ref bN, .ref bP, .ref bQ, .ref bR, .int sz1, .int un, .int (b2i mo), .int tl, .int (b2i sp), .int tpo, .long fro, .int (b2i ly)])), (bN, .inl (kN, 2, .inl (fun k => b2i (mi k)))), (bP, .inl (kP, 2, .inl pw)), (bQ, .inl (kQ, 2, .inr (.inl pt)))] H := by exact hP.sub [1, 0, 2, 3] rfl
              have hD9 : va_D A [(bM, .inr (3, [.int cd, .int wd, .ref bT, .ref bF, .int al, .ref bN, .ref bP, .ref bQ, .ref bR, .int sz1, .int un, .int (b2i mo), .int tl, .int (b2i sp), .int tpo, .long fro, .int (b2i ly)])), (bN, .inl (kN, 2, .inl (fun k => b2i (mi k)))), (bP, .inl (kP, 2, .inl pw)), (bQ, .inl (kQ, 2, .inr (.inl pt)))] := by exact hD.sub [1, 0, 2, 3] (by decide) rfl
              exact W.zret (v := 1) hx hb hr (by first | exact nar_b2i _ | rfl) (fun t ht hW => ⟨⟨1, (), rfl, by rw [hE]; rfl, by rw [ht]; exact hP9, hD9⟩, hS.F ht⟩) hS.2.2 d_M_isWrong_111
            · skip
              have c_88 : ¬ j16_0 = true := b2i_z c_88
              refine lv_aload_n hx hb d_M_isWrong_91 rfl (lv_at hl 1 rfl) ?_
              refine va_get (D := (dC, dI)) (ci := 3) (v := .ref bN) (C := R_M) (T := F_M) (N := 17) hx hb htA in_M hown hK hP 1 rfl rfl 5 (by decide) (htA _ k_312) (fun _ h9 => h9) rfl d_M_isWrong_92 ?_
              refine lv_iconst (v := 0) hx hb d_M_isWrong_95 (by decide) ?_
              refine va_zald hx hb hK hP 0 0 rfl rfl in2_0 d_M_isWrong_96 ?_
              refine lv_aload_n hx hb d_M_isWrong_97 rfl (lv_at hl 1 rfl) ?_
              refine va_get (D := (dC, dI)) (ci := 3) (v := .ref bN) (C := R_M) (T := F_M) (N := 17) hx hb htA in_M hown hK hP 1 rfl rfl 5 (by decide) (htA _ k_312) (fun _ h9 => h9) rfl d_M_isWrong_98 ?_
              refine lv_iconst (v := 1) hx hb d_M_isWrong_101 (by decide) ?_
              refine va_zald hx hb hK hP 0 0 rfl rfl in2_1 d_M_isWrong_102 ?_
              refine lv_icmp_eq (tgt := 110) hx hb d_M_isWrong_103 (by decide) (fun c_103 => ?_) (fun c_103 => ?_)
              · skip
                have c_103 : (mi (0 : Int32).toNatClampNeg) = (mi (1 : Int32).toNatClampNeg) := b2i_inj c_103
                refine lv_iconst (v := 0) hx hb d_M_isWrong_110 (by decide) ?_
                have hE : g_M_isWrong wd mi pw pt iop = (false) := by clear hP hD hl hS; subst ej16_0; unfold g_M_isWrong; (try dsimp only); rw [if_neg c_20, if_neg c_68, if_pos c_76, if_pos c_84, if_neg c_88, if_pos c_103]
                have hP9 : va_P (dC, dI) classes [(bM, .inr (3, [.int cd, .int wd, .ref bT, .ref bF, .int al, .ref bN, .ref bP, .ref bQ, .ref bR, .int sz1, .int un, .int (b2i mo), .int tl, .int (b2i sp), .int tpo, .long fro, .int (b2i ly)])), (bN, .inl (kN, 2, .inl (fun k => b2i (mi k)))), (bP, .inl (kP, 2, .inl pw)), (bQ, .inl (kQ, 2, .inr (.inl pt)))] H := by exact hP.sub [1, 0, 2, 3] rfl
                have hD9 : va_D A [(bM, .inr (3, [.int cd, .int wd, .ref bT, .ref bF, .int al, .ref bN, .ref bP, .ref bQ, .ref bR, .int sz1, .int un, .int (b2i mo), .int tl, .int (b2i sp), .int tpo, .long fro, .int (b2i ly)])), (bN, .inl (kN, 2, .inl (fun k => b2i (mi k)))), (bP, .inl (kP, 2, .inl pw)), (bQ, .inl (kQ, 2, .inr (.inl pt)))] := by exact hD.sub [1, 0, 2, 3] (by decide) rfl
                exact W.zret (v := 0) hx hb hr (by first | exact nar_b2i _ | rfl) (fun t ht hW => ⟨⟨0, (), rfl, by rw [hE]; rfl, by rw [ht]; exact hP9, hD9⟩, hS.F ht⟩) hS.2.2 d_M_isWrong_111
              · skip
                have c_103 : ¬ (mi (0 : Int32).toNatClampNeg) = (mi (1 : Int32).toNatClampNeg) := fun h9 => c_103 (by rw [h9])
                refine lv_iconst (v := 1) hx hb d_M_isWrong_106 (by decide) ?_
                refine lv_goto (tgt := 111) hx hb d_M_isWrong_107 (by decide) ?_
                have hE : g_M_isWrong wd mi pw pt iop = (true) := by clear hP hD hl hS; subst ej16_0; unfold g_M_isWrong; (try dsimp only); rw [if_neg c_20, if_neg c_68, if_pos c_76, if_pos c_84, if_neg c_88, if_neg c_103]
                have hP9 : va_P (dC, dI) classes [(bM, .inr (3, [.int cd, .int wd, .ref bT, .ref bF, .int al, .ref bN, .ref bP, .ref bQ, .ref bR, .int sz1, .int un, .int (b2i mo), .int tl, .int (b2i sp), .int tpo, .long fro, .int (b2i ly)])), (bN, .inl (kN, 2, .inl (fun k => b2i (mi k)))), (bP, .inl (kP, 2, .inl pw)), (bQ, .inl (kQ, 2, .inr (.inl pt)))] H := by exact hP.sub [1, 0, 2, 3] rfl
                have hD9 : va_D A [(bM, .inr (3, [.int cd, .int wd, .ref bT, .ref bF, .int al, .ref bN, .ref bP, .ref bQ, .ref bR, .int sz1, .int un, .int (b2i mo), .int tl, .int (b2i sp), .int tpo, .long fro, .int (b2i ly)])), (bN, .inl (kN, 2, .inl (fun k => b2i (mi k)))), (bP, .inl (kP, 2, .inl pw)), (bQ, .inl (kQ, 2, .inr (.inl pt)))] := by exact hD.sub [1, 0, 2, 3] (by decide) rfl
                exact W.zret (v := 1) hx hb hr (by first | exact nar_b2i _ | rfl) (fun t ht hW => ⟨⟨1, (), rfl, by rw [hE]; rfl, by rw [ht]; exact hP9, hD9⟩, hS.F ht⟩) hS.2.2 d_M_isWrong_111
    · skip
      refine lv_aload_n hx hb d_M_isWrong_23 rfl (lv_at hl 1 rfl) ?_
      refine va_get (D := (dC, dI)) (ci := 3) (v := .ref bN) (C := R_M) (T := F_M) (N := 17) hx hb htA in_M hown hK hP 0 rfl rfl 5 (by decide) (htA _ k_312) (fun _ h9 => h9) rfl d_M_isWrong_24 ?_
      refine lv_iconst (v := 0) hx hb d_M_isWrong_27 (by decide) ?_
      refine va_zald hx hb hK hP 1 0 rfl rfl in2_0 d_M_isWrong_28 ?_
      refine lv_if_eq (tgt := 40) hx hb d_M_isWrong_29 (by decide) (fun c_29 => ?_) (fun c_29 => ?_)
      · skip
        have c_29 : ¬ (mi (0 : Int32).toNatClampNeg) = true := b2i_z c_29
        refine lv_aload_n hx hb d_M_isWrong_40 rfl (lv_at hl 1 rfl) ?_
        refine lv_iconst (v := 0) hx hb d_M_isWrong_41 (by decide) ?_
        have hPc := hP.sub (ws' := [(bM, .inr (3, [.int cd, .int wd, .ref bT, .ref bF, .int al, .ref bN, .ref bP, .ref bQ, .ref bR, .int sz1, .int un, .int (b2i mo), .int tl, .int (b2i sp), .int tpo, .long fro, .int (b2i ly)])), (bP, .inl (kP, 2, .inl pw)), (bQ, .inl (kQ, 2, .inr (.inl pt)))]) [0, 2, 3] rfl
        have hDc := hD.sub (ws' := [(bM, .inr (3, [.int cd, .int wd, .ref bT, .ref bF, .int al, .ref bN, .ref bP, .ref bQ, .ref bR, .int sz1, .int un, .int (b2i mo), .int tl, .int (b2i sp), .int tpo, .long fro, .int (b2i ly)])), (bP, .inl (kP, 2, .inl pw)), (bQ, .inl (kQ, 2, .inr (.inl pt)))]) [0, 2, 3] (by decide) rfl
        have hKc := hK.sub (tys' := [(kP, .int), (kQ, .long)]) [1, 2] rfl
        have hFc := va_free (wc := [(bM, .inr (3, [.int cd, .int wd, .ref bT, .ref bF, .int al, .ref bN, .ref bP, .ref bQ, .ref bR, .int sz1, .int un, .int (b2i mo), .int tl, .int (b2i sp), .int tpo, .long fro, .int (b2i ly)])), (bP, .inl (kP, 2, .inl pw)), (bQ, .inl (kQ, 2, .inr (.inl pt)))]) hD hS hA [0, 2, 3] rfl
        refine cc_i (va_runV (As := [.int 0]) (rest := []) ⟨hx, hb, hml, hown, htA⟩ (c_M_isUnnormal l dC dI kP kQ bM bP bQ bT bF bN bR H.size cd wd al sz1 un mo tl sp tpo fro ly pw pt 0 in2_0) (cwV 1 htA (gi_V k_345 k_346 k_347 k_263 (gi_code k_261)) rfl rfl rfl (by decide +kernel) ⟨Nat.le_of_ble_eq_true rfl, Nat.le_of_ble_eq_true rfl⟩) (pre_V hnw hPc hKc hDc (ci := 3) (q0 := 0) rfl rfl) rfl rfl hl.1 rfl (lv_room (Nat.le_of_ble_eq_true rfl)) d_M_isWrong_42 ⟨Nat.le_of_ble_eq_true rfl, Nat.le_of_ble_eq_true rfl⟩) hS hFc hP hD [0, 2, 3] [1] (wr := [(bN, .inl (kN, 2, .inl (fun k => b2i (mi k))))]) rfl rfl (by decide) (by decide) (fun H locs hP hD hS => ?_)
        have hP : va_P (dC, dI) classes [(bN, .inl (kN, 2, .inl (fun k => b2i (mi k)))), (bM, .inr (3, [.int cd, .int wd, .ref bT, .ref bF, .int al, .ref bN, .ref bP, .ref bQ, .ref bR, .int sz1, .int un, .int (b2i mo), .int tl, .int (b2i sp), .int tpo, .long fro, .int (b2i ly)])), (bP, .inl (kP, 2, .inl pw)), (bQ, .inl (kQ, 2, .inr (.inl pt)))] H := hP
        have hD : va_D A [(bN, .inl (kN, 2, .inl (fun k => b2i (mi k)))), (bM, .inr (3, [.int cd, .int wd, .ref bT, .ref bF, .int al, .ref bN, .ref bP, .ref bQ, .ref bR, .int sz1, .int un, .int (b2i mo), .int tl, .int (b2i sp), .int tpo, .long fro, .int (b2i ly)])), (bP, .inl (kP, 2, .inl pw)), (bQ, .inl (kQ, 2, .inr (.inl pt)))] := hD
        refine lv_if_ne (tgt := 60) hx hb d_M_isWrong_45 (by decide) (fun c_45 => ?_) (fun c_45 => ?_)
        · skip
          have c_45 : (g_M_isUnnormal pw pt 0) = true := b2i_nz c_45
          refine lv_iconst (v := 1) hx hb d_M_isWrong_60 (by decide) ?_
          refine lv_goto (tgt := 65) hx hb d_M_isWrong_61 (by decide) ?_
          have hE : g_M_isWrong wd mi pw pt iop = (true) := by clear hP hD hl hS; subst ej16_0; unfold g_M_isWrong; (try dsimp only); rw [if_pos c_20, if_neg c_29, if_pos c_45]
          have hP9 : va_P (dC, dI) classes [(bM, .inr (3, [.int cd, .int wd, .ref bT, .ref bF, .int al, .ref bN, .ref bP, .ref bQ, .ref bR, .int sz1, .int un, .int (b2i mo), .int tl, .int (b2i sp), .int tpo, .long fro, .int (b2i ly)])), (bN, .inl (kN, 2, .inl (fun k => b2i (mi k)))), (bP, .inl (kP, 2, .inl pw)), (bQ, .inl (kQ, 2, .inr (.inl pt)))] H := by exact hP.sub [1, 0, 2, 3] rfl
          have hD9 : va_D A [(bM, .inr (3, [.int cd, .int wd, .ref bT, .ref bF, .int al, .ref bN, .ref bP, .ref bQ, .ref bR, .int sz1, .int un, .int (b2i mo), .int tl, .int (b2i sp), .int tpo, .long fro, .int (b2i ly)])), (bN, .inl (kN, 2, .inl (fun k => b2i (mi k)))), (bP, .inl (kP, 2, .inl pw)), (bQ, .inl (kQ, 2, .inr (.inl pt)))] := by exact hD.sub [1, 0, 2, 3] (by decide) rfl
          exact W.zret (v := 1) hx hb hr (by first | exact nar_b2i _ | rfl) (fun t ht hW => ⟨⟨1, (), rfl, by rw [hE]; rfl, by rw [ht]; exact hP9, hD9⟩, hS.F ht⟩) hS.2.2 d_M_isWrong_65
        · skip
          have c_45 : ¬ (g_M_isUnnormal pw pt 0) = true := b2i_z c_45
          refine lv_aload_n hx hb d_M_isWrong_48 rfl (lv_at hl 1 rfl) ?_
          refine lv_iconst (v := 0) hx hb d_M_isWrong_49 (by decide) ?_
          have hPc := hP.sub (ws' := [(bM, .inr (3, [.int cd, .int wd, .ref bT, .ref bF, .int al, .ref bN, .ref bP, .ref bQ, .ref bR, .int sz1, .int un, .int (b2i mo), .int tl, .int (b2i sp), .int tpo, .long fro, .int (b2i ly)])), (bP, .inl (kP, 2, .inl pw)), (bQ, .inl (kQ, 2, .inr (.inl pt)))]) [1, 2, 3] rfl
          have hDc := hD.sub (ws' := [(bM, .inr (3, [.int cd, .int wd, .ref bT, .ref bF, .int al, .ref bN, .ref bP, .ref bQ, .ref bR, .int sz1, .int un, .int (b2i mo), .int tl, .int (b2i sp), .int tpo, .long fro, .int (b2i ly)])), (bP, .inl (kP, 2, .inl pw)), (bQ, .inl (kQ, 2, .inr (.inl pt)))]) [1, 2, 3] (by decide) rfl
          have hKc := hK.sub (tys' := [(kP, .int), (kQ, .long)]) [1, 2] rfl
          have hFc := va_free (wc := [(bM, .inr (3, [.int cd, .int wd, .ref bT, .ref bF, .int al, .ref bN, .ref bP, .ref bQ, .ref bR, .int sz1, .int un, .int (b2i mo), .int tl, .int (b2i sp), .int tpo, .long fro, .int (b2i ly)])), (bP, .inl (kP, 2, .inl pw)), (bQ, .inl (kQ, 2, .inr (.inl pt)))]) hD hS hA [1, 2, 3] rfl
          refine cc_i (va_runV (As := [.int 0]) (rest := []) ⟨hx, hb, hml, hown, htA⟩ (c_M_isEndless l dC dI kP kQ bM bP bQ bT bF bN bR H.size cd wd al sz1 un mo tl sp tpo fro ly pw pt 0 in2_0) (cwV 1 htA (gi_V k_342 k_343 k_344 k_263 (gi_code k_258)) rfl rfl rfl (by decide +kernel) ⟨Nat.le_of_ble_eq_true rfl, Nat.le_of_ble_eq_true rfl⟩) (pre_V hnw hPc hKc hDc (ci := 3) (q0 := 0) rfl rfl) rfl rfl hl.1 rfl (lv_room (Nat.le_of_ble_eq_true rfl)) d_M_isWrong_50 ⟨Nat.le_of_ble_eq_true rfl, Nat.le_of_ble_eq_true rfl⟩) hS hFc hP hD [1, 2, 3] [0] (wr := [(bN, .inl (kN, 2, .inl (fun k => b2i (mi k))))]) rfl rfl (by decide) (by decide) (fun H locs hP hD hS => ?_)
          have hP : va_P (dC, dI) classes [(bN, .inl (kN, 2, .inl (fun k => b2i (mi k)))), (bM, .inr (3, [.int cd, .int wd, .ref bT, .ref bF, .int al, .ref bN, .ref bP, .ref bQ, .ref bR, .int sz1, .int un, .int (b2i mo), .int tl, .int (b2i sp), .int tpo, .long fro, .int (b2i ly)])), (bP, .inl (kP, 2, .inl pw)), (bQ, .inl (kQ, 2, .inr (.inl pt)))] H := hP
          have hD : va_D A [(bN, .inl (kN, 2, .inl (fun k => b2i (mi k)))), (bM, .inr (3, [.int cd, .int wd, .ref bT, .ref bF, .int al, .ref bN, .ref bP, .ref bQ, .ref bR, .int sz1, .int un, .int (b2i mo), .int tl, .int (b2i sp), .int tpo, .long fro, .int (b2i ly)])), (bP, .inl (kP, 2, .inl pw)), (bQ, .inl (kQ, 2, .inr (.inl pt)))] := hD
          refine lv_if_eq (tgt := 64) hx hb d_M_isWrong_53 (by decide) (fun c_53 => ?_) (fun c_53 => ?_)
          · skip
            have c_53 : ¬ (g_M_isEndless pw pt 0) = true := b2i_z c_53
            refine lv_iconst (v := 0) hx hb d_M_isWrong_64 (by decide) ?_
            have hE : g_M_isWrong wd mi pw pt iop = (false) := by clear hP hD hl hS; subst ej16_0; unfold g_M_isWrong; (try dsimp only); rw [if_pos c_20, if_neg c_29, if_neg c_45, if_neg c_53]
            have hP9 : va_P (dC, dI) classes [(bM, .inr (3, [.int cd, .int wd, .ref bT, .ref bF, .int al, .ref bN, .ref bP, .ref bQ, .ref bR, .int sz1, .int un, .int (b2i mo), .int tl, .int (b2i sp), .int tpo, .long fro, .int (b2i ly)])), (bN, .inl (kN, 2, .inl (fun k => b2i (mi k)))), (bP, .inl (kP, 2, .inl pw)), (bQ, .inl (kQ, 2, .inr (.inl pt)))] H := by exact hP.sub [1, 0, 2, 3] rfl
            have hD9 : va_D A [(bM, .inr (3, [.int cd, .int wd, .ref bT, .ref bF, .int al, .ref bN, .ref bP, .ref bQ, .ref bR, .int sz1, .int un, .int (b2i mo), .int tl, .int (b2i sp), .int tpo, .long fro, .int (b2i ly)])), (bN, .inl (kN, 2, .inl (fun k => b2i (mi k)))), (bP, .inl (kP, 2, .inl pw)), (bQ, .inl (kQ, 2, .inr (.inl pt)))] := by exact hD.sub [1, 0, 2, 3] (by decide) rfl
            exact W.zret (v := 0) hx hb hr (by first | exact nar_b2i _ | rfl) (fun t ht hW => ⟨⟨0, (), rfl, by rw [hE]; rfl, by rw [ht]; exact hP9, hD9⟩, hS.F ht⟩) hS.2.2 d_M_isWrong_65
          · skip
            have c_53 : (g_M_isEndless pw pt 0) = true := b2i_nz c_53
            refine lv_iload_n hx hb d_M_isWrong_56 rfl (lv_at hl 0 rfl) ?_
            refine lv_if_eq (tgt := 64) hx hb d_M_isWrong_57 (by decide) (fun c_57 => ?_) (fun c_57 => ?_)
            · skip
              have c_57 : ¬ j16_0 = true := b2i_z c_57
              refine lv_iconst (v := 0) hx hb d_M_isWrong_64 (by decide) ?_
              have hE : g_M_isWrong wd mi pw pt iop = (false) := by clear hP hD hl hS; subst ej16_0; unfold g_M_isWrong; (try dsimp only); rw [if_pos c_20, if_neg c_29, if_neg c_45, if_pos c_53, if_neg c_57]
              have hP9 : va_P (dC, dI) classes [(bM, .inr (3, [.int cd, .int wd, .ref bT, .ref bF, .int al, .ref bN, .ref bP, .ref bQ, .ref bR, .int sz1, .int un, .int (b2i mo), .int tl, .int (b2i sp), .int tpo, .long fro, .int (b2i ly)])), (bN, .inl (kN, 2, .inl (fun k => b2i (mi k)))), (bP, .inl (kP, 2, .inl pw)), (bQ, .inl (kQ, 2, .inr (.inl pt)))] H := by exact hP.sub [1, 0, 2, 3] rfl
              have hD9 : va_D A [(bM, .inr (3, [.int cd, .int wd, .ref bT, .ref bF, .int al, .ref bN, .ref bP, .ref bQ, .ref bR, .int sz1, .int un, .int (b2i mo), .int tl, .int (b2i sp), .int tpo, .long fro, .int (b2i ly)])), (bN, .inl (kN, 2, .inl (fun k => b2i (mi k)))), (bP, .inl (kP, 2, .inl pw)), (bQ, .inl (kQ, 2, .inr (.inl pt)))] := by exact hD.sub [1, 0, 2, 3] (by decide) rfl
              exact W.zret (v := 0) hx hb hr (by first | exact nar_b2i _ | rfl) (fun t ht hW => ⟨⟨0, (), rfl, by rw [hE]; rfl, by rw [ht]; exact hP9, hD9⟩, hS.F ht⟩) hS.2.2 d_M_isWrong_65
            · skip
              have c_57 : j16_0 = true := b2i_nz c_57
              refine lv_iconst (v := 1) hx hb d_M_isWrong_60 (by decide) ?_
              refine lv_goto (tgt := 65) hx hb d_M_isWrong_61 (by decide) ?_
              have hE : g_M_isWrong wd mi pw pt iop = (true) := by clear hP hD hl hS; subst ej16_0; unfold g_M_isWrong; (try dsimp only); rw [if_pos c_20, if_neg c_29, if_neg c_45, if_pos c_53, if_pos c_57]
              have hP9 : va_P (dC, dI) classes [(bM, .inr (3, [.int cd, .int wd, .ref bT, .ref bF, .int al, .ref bN, .ref bP, .ref bQ, .ref bR, .int sz1, .int un, .int (b2i mo), .int tl, .int (b2i sp), .int tpo, .long fro, .int (b2i ly)])), (bN, .inl (kN, 2, .inl (fun k => b2i (mi k)))), (bP, .inl (kP, 2, .inl pw)), (bQ, .inl (kQ, 2, .inr (.inl pt)))] H := by exact hP.sub [1, 0, 2, 3] rfl
              have hD9 : va_D A [(bM, .inr (3, [.int cd, .int wd, .ref bT, .ref bF, .int al, .ref bN, .ref bP, .ref bQ, .ref bR, .int sz1, .int un, .int (b2i mo), .int tl, .int (b2i sp), .int tpo, .long fro, .int (b2i ly)])), (bN, .inl (kN, 2, .inl (fun k => b2i (mi k)))), (bP, .inl (kP, 2, .inl pw)), (bQ, .inl (kQ, 2, .inr (.inl pt)))] := by exact hD.sub [1, 0, 2, 3] (by decide) rfl
              exact W.zret (v := 1) hx hb hr (by first | exact nar_b2i _ | rfl) (fun t ht hW => ⟨⟨1, (), rfl, by rw [hE]; rfl, by rw [ht]; exact hP9, hD9⟩, hS.F ht⟩) hS.2.2 d_M_isWrong_65
      · skip
        have c_29 : (mi (0 : Int32).toNatClampNeg) = true := b2i_nz c_29
        refine lv_aload_n hx hb d_M_isWrong_32 rfl (lv_at hl 1 rfl) ?_
        refine lv_iconst (v := 0) hx hb d_M_isWrong_33 (by decide) ?_
        have hPc := hP.sub (ws' := [(bM, .inr (3, [.int cd, .int wd, .ref bT, .ref bF, .int al, .ref bN, .ref bP, .ref bQ, .ref bR, .int sz1, .int un, .int (b2i mo), .int tl, .int (b2i sp), .int tpo, .long fro, .int (b2i ly)])), (bP, .inl (kP, 2, .inl pw)), (bQ, .inl (kQ, 2, .inr (.inl pt)))]) [0, 2, 3] rfl
        have hDc := hD.sub (ws' := [(bM, .inr (3, [.int cd, .int wd, .ref bT, .ref bF, .int al, .ref bN, .ref bP, .ref bQ, .ref bR, .int sz1, .int un, .int (b2i mo), .int tl, .int (b2i sp), .int tpo, .long fro, .int (b2i ly)])), (bP, .inl (kP, 2, .inl pw)), (bQ, .inl (kQ, 2, .inr (.inl pt)))]) [0, 2, 3] (by decide) rfl
        have hKc := hK.sub (tys' := [(kP, .int), (kQ, .long)]) [1, 2] rfl
        have hFc := va_free (wc := [(bM, .inr (3, [.int cd, .int wd, .ref bT, .ref bF, .int al, .ref bN, .ref bP, .ref bQ, .ref bR, .int sz1, .int un, .int (b2i mo), .int tl, .int (b2i sp), .int tpo, .long fro, .int (b2i ly)])), (bP, .inl (kP, 2, .inl pw)), (bQ, .inl (kQ, 2, .inr (.inl pt)))]) hD hS hA [0, 2, 3] rfl
        refine cc_i (va_runV (As := [.int 0]) (rest := []) ⟨hx, hb, hml, hown, htA⟩ (c_M_isNothing l dC dI kP kQ bM bP bQ bT bF bN bR H.size cd wd al sz1 un mo tl sp tpo fro ly pw pt 0 in2_0) (cwV 1 htA (gi_V k_322 k_323 k_324 k_263 (gi_code k_259)) rfl rfl rfl (by decide +kernel) ⟨Nat.le_of_ble_eq_true rfl, Nat.le_of_ble_eq_true rfl⟩) (pre_V hnw hPc hKc hDc (ci := 3) (q0 := 0) rfl rfl) rfl rfl hl.1 rfl (lv_room (Nat.le_of_ble_eq_true rfl)) d_M_isWrong_34 ⟨Nat.le_of_ble_eq_true rfl, Nat.le_of_ble_eq_true rfl⟩) hS hFc hP hD [0, 2, 3] [1] (wr := [(bN, .inl (kN, 2, .inl (fun k => b2i (mi k))))]) rfl rfl (by decide) (by decide) (fun H locs hP hD hS => ?_)
        have hP : va_P (dC, dI) classes [(bN, .inl (kN, 2, .inl (fun k => b2i (mi k)))), (bM, .inr (3, [.int cd, .int wd, .ref bT, .ref bF, .int al, .ref bN, .ref bP, .ref bQ, .ref bR, .int sz1, .int un, .int (b2i mo), .int tl, .int (b2i sp), .int tpo, .long fro, .int (b2i ly)])), (bP, .inl (kP, 2, .inl pw)), (bQ, .inl (kQ, 2, .inr (.inl pt)))] H := hP
        have hD : va_D A [(bN, .inl (kN, 2, .inl (fun k => b2i (mi k)))), (bM, .inr (3, [.int cd, .int wd, .ref bT, .ref bF, .int al, .ref bN, .ref bP, .ref bQ, .ref bR, .int sz1, .int un, .int (b2i mo), .int tl, .int (b2i sp), .int tpo, .long fro, .int (b2i ly)])), (bP, .inl (kP, 2, .inl pw)), (bQ, .inl (kQ, 2, .inr (.inl pt)))] := hD
        refine lv_if_eq (tgt := 60) hx hb d_M_isWrong_37 (by decide) (fun c_37 => ?_) (fun c_37 => ?_)
        · skip
          have c_37 : ¬ (g_M_isNothing pw pt 0) = true := b2i_z c_37
          refine lv_iconst (v := 1) hx hb d_M_isWrong_60 (by decide) ?_
          refine lv_goto (tgt := 65) hx hb d_M_isWrong_61 (by decide) ?_
          have hE : g_M_isWrong wd mi pw pt iop = (true) := by clear hP hD hl hS; subst ej16_0; unfold g_M_isWrong; (try dsimp only); rw [if_pos c_20, if_pos c_29, if_neg c_37]
          have hP9 : va_P (dC, dI) classes [(bM, .inr (3, [.int cd, .int wd, .ref bT, .ref bF, .int al, .ref bN, .ref bP, .ref bQ, .ref bR, .int sz1, .int un, .int (b2i mo), .int tl, .int (b2i sp), .int tpo, .long fro, .int (b2i ly)])), (bN, .inl (kN, 2, .inl (fun k => b2i (mi k)))), (bP, .inl (kP, 2, .inl pw)), (bQ, .inl (kQ, 2, .inr (.inl pt)))] H := by exact hP.sub [1, 0, 2, 3] rfl
          have hD9 : va_D A [(bM, .inr (3, [.int cd, .int wd, .ref bT, .ref bF, .int al, .ref bN, .ref bP, .ref bQ, .ref bR, .int sz1, .int un, .int (b2i mo), .int tl, .int (b2i sp), .int tpo, .long fro, .int (b2i ly)])), (bN, .inl (kN, 2, .inl (fun k => b2i (mi k)))), (bP, .inl (kP, 2, .inl pw)), (bQ, .inl (kQ, 2, .inr (.inl pt)))] := by exact hD.sub [1, 0, 2, 3] (by decide) rfl
          exact W.zret (v := 1) hx hb hr (by first | exact nar_b2i _ | rfl) (fun t ht hW => ⟨⟨1, (), rfl, by rw [hE]; rfl, by rw [ht]; exact hP9, hD9⟩, hS.F ht⟩) hS.2.2 d_M_isWrong_65
        · skip
          have c_37 : (g_M_isNothing pw pt 0) = true := b2i_nz c_37
          refine lv_aload_n hx hb d_M_isWrong_40 rfl (lv_at hl 1 rfl) ?_
          refine lv_iconst (v := 0) hx hb d_M_isWrong_41 (by decide) ?_
          have hPc := hP.sub (ws' := [(bM, .inr (3, [.int cd, .int wd, .ref bT, .ref bF, .int al, .ref bN, .ref bP, .ref bQ, .ref bR, .int sz1, .int un, .int (b2i mo), .int tl, .int (b2i sp), .int tpo, .long fro, .int (b2i ly)])), (bP, .inl (kP, 2, .inl pw)), (bQ, .inl (kQ, 2, .inr (.inl pt)))]) [1, 2, 3] rfl
          have hDc := hD.sub (ws' := [(bM, .inr (3, [.int cd, .int wd, .ref bT, .ref bF, .int al, .ref bN, .ref bP, .ref bQ, .ref bR, .int sz1, .int un, .int (b2i mo), .int tl, .int (b2i sp), .int tpo, .long fro, .int (b2i ly)])), (bP, .inl (kP, 2, .inl pw)), (bQ, .inl (kQ, 2, .inr (.inl pt)))]) [1, 2, 3] (by decide) rfl
          have hKc := hK.sub (tys' := [(kP, .int), (kQ, .long)]) [1, 2] rfl
          have hFc := va_free (wc := [(bM, .inr (3, [.int cd, .int wd, .ref bT, .ref bF, .int al, .ref bN, .ref bP, .ref bQ, .ref bR, .int sz1, .int un, .int (b2i mo), .int tl, .int (b2i sp), .int tpo, .long fro, .int (b2i ly)])), (bP, .inl (kP, 2, .inl pw)), (bQ, .inl (kQ, 2, .inr (.inl pt)))]) hD hS hA [1, 2, 3] rfl
          refine cc_i (va_runV (As := [.int 0]) (rest := []) ⟨hx, hb, hml, hown, htA⟩ (c_M_isUnnormal l dC dI kP kQ bM bP bQ bT bF bN bR H.size cd wd al sz1 un mo tl sp tpo fro ly pw pt 0 in2_0) (cwV 1 htA (gi_V k_345 k_346 k_347 k_263 (gi_code k_261)) rfl rfl rfl (by decide +kernel) ⟨Nat.le_of_ble_eq_true rfl, Nat.le_of_ble_eq_true rfl⟩) (pre_V hnw hPc hKc hDc (ci := 3) (q0 := 0) rfl rfl) rfl rfl hl.1 rfl (lv_room (Nat.le_of_ble_eq_true rfl)) d_M_isWrong_42 ⟨Nat.le_of_ble_eq_true rfl, Nat.le_of_ble_eq_true rfl⟩) hS hFc hP hD [1, 2, 3] [0] (wr := [(bN, .inl (kN, 2, .inl (fun k => b2i (mi k))))]) rfl rfl (by decide) (by decide) (fun H locs hP hD hS => ?_)
          have hP : va_P (dC, dI) classes [(bN, .inl (kN, 2, .inl (fun k => b2i (mi k)))), (bM, .inr (3, [.int cd, .int wd, .ref bT, .ref bF, .int al, .ref bN, .ref bP, .ref bQ, .ref bR, .int sz1, .int un, .int (b2i mo), .int tl, .int (b2i sp), .int tpo, .long fro, .int (b2i ly)])), (bP, .inl (kP, 2, .inl pw)), (bQ, .inl (kQ, 2, .inr (.inl pt)))] H := hP
          have hD : va_D A [(bN, .inl (kN, 2, .inl (fun k => b2i (mi k)))), (bM, .inr (3, [.int cd, .int wd, .ref bT, .ref bF, .int al, .ref bN, .ref bP, .ref bQ, .ref bR, .int sz1, .int un, .int (b2i mo), .int tl, .int (b2i sp), .int tpo, .long fro, .int (b2i ly)])), (bP, .inl (kP, 2, .inl pw)), (bQ, .inl (kQ, 2, .inr (.inl pt)))] := hD
          refine lv_if_ne (tgt := 60) hx hb d_M_isWrong_45 (by decide) (fun c_45 => ?_) (fun c_45 => ?_)
          · skip
            have c_45 : (g_M_isUnnormal pw pt 0) = true := b2i_nz c_45
            refine lv_iconst (v := 1) hx hb d_M_isWrong_60 (by decide) ?_
            refine lv_goto (tgt := 65) hx hb d_M_isWrong_61 (by decide) ?_
            have hE : g_M_isWrong wd mi pw pt iop = (true) := by clear hP hD hl hS; subst ej16_0; unfold g_M_isWrong; (try dsimp only); rw [if_pos c_20, if_pos c_29, if_pos c_37, if_pos c_45]
            have hP9 : va_P (dC, dI) classes [(bM, .inr (3, [.int cd, .int wd, .ref bT, .ref bF, .int al, .ref bN, .ref bP, .ref bQ, .ref bR, .int sz1, .int un, .int (b2i mo), .int tl, .int (b2i sp), .int tpo, .long fro, .int (b2i ly)])), (bN, .inl (kN, 2, .inl (fun k => b2i (mi k)))), (bP, .inl (kP, 2, .inl pw)), (bQ, .inl (kQ, 2, .inr (.inl pt)))] H := by exact hP.sub [1, 0, 2, 3] rfl
            have hD9 : va_D A [(bM, .inr (3, [.int cd, .int wd, .ref bT, .ref bF, .int al, .ref bN, .ref bP, .ref bQ, .ref bR, .int sz1, .int un, .int (b2i mo), .int tl, .int (b2i sp), .int tpo, .long fro, .int (b2i ly)])), (bN, .inl (kN, 2, .inl (fun k => b2i (mi k)))), (bP, .inl (kP, 2, .inl pw)), (bQ, .inl (kQ, 2, .inr (.inl pt)))] := by exact hD.sub [1, 0, 2, 3] (by decide) rfl
            exact W.zret (v := 1) hx hb hr (by first | exact nar_b2i _ | rfl) (fun t ht hW => ⟨⟨1, (), rfl, by rw [hE]; rfl, by rw [ht]; exact hP9, hD9⟩, hS.F ht⟩) hS.2.2 d_M_isWrong_65
          · skip
            have c_45 : ¬ (g_M_isUnnormal pw pt 0) = true := b2i_z c_45
            refine lv_aload_n hx hb d_M_isWrong_48 rfl (lv_at hl 1 rfl) ?_
            refine lv_iconst (v := 0) hx hb d_M_isWrong_49 (by decide) ?_
            have hPc := hP.sub (ws' := [(bM, .inr (3, [.int cd, .int wd, .ref bT, .ref bF, .int al, .ref bN, .ref bP, .ref bQ, .ref bR, .int sz1, .int un, .int (b2i mo), .int tl, .int (b2i sp), .int tpo, .long fro, .int (b2i ly)])), (bP, .inl (kP, 2, .inl pw)), (bQ, .inl (kQ, 2, .inr (.inl pt)))]) [1, 2, 3] rfl
            have hDc := hD.sub (ws' := [(bM, .inr (3, [.int cd, .int wd, .ref bT, .ref bF, .int al, .ref bN, .ref bP, .ref bQ, .ref bR, .int sz1, .int un, .int (b2i mo), .int tl, .int (b2i sp), .int tpo, .long fro, .int (b2i ly)])), (bP, .inl (kP, 2, .inl pw)), (bQ, .inl (kQ, 2, .inr (.inl pt)))]) [1, 2, 3] (by decide) rfl
            have hKc := hK.sub (tys' := [(kP, .int), (kQ, .long)]) [1, 2] rfl
            have hFc := va_free (wc := [(bM, .inr (3, [.int cd, .int wd, .ref bT, .ref bF, .int al, .ref bN, .ref bP, .ref bQ, .ref bR, .int sz1, .int un, .int (b2i mo), .int tl, .int (b2i sp), .int tpo, .long fro, .int (b2i ly)])), (bP, .inl (kP, 2, .inl pw)), (bQ, .inl (kQ, 2, .inr (.inl pt)))]) hD hS hA [1, 2, 3] rfl
            refine cc_i (va_runV (As := [.int 0]) (rest := []) ⟨hx, hb, hml, hown, htA⟩ (c_M_isEndless l dC dI kP kQ bM bP bQ bT bF bN bR H.size cd wd al sz1 un mo tl sp tpo fro ly pw pt 0 in2_0) (cwV 1 htA (gi_V k_342 k_343 k_344 k_263 (gi_code k_258)) rfl rfl rfl (by decide +kernel) ⟨Nat.le_of_ble_eq_true rfl, Nat.le_of_ble_eq_true rfl⟩) (pre_V hnw hPc hKc hDc (ci := 3) (q0 := 0) rfl rfl) rfl rfl hl.1 rfl (lv_room (Nat.le_of_ble_eq_true rfl)) d_M_isWrong_50 ⟨Nat.le_of_ble_eq_true rfl, Nat.le_of_ble_eq_true rfl⟩) hS hFc hP hD [1, 2, 3] [0] (wr := [(bN, .inl (kN, 2, .inl (fun k => b2i (mi k))))]) rfl rfl (by decide) (by decide) (fun H locs hP hD hS => ?_)
            have hP : va_P (dC, dI) classes [(bN, .inl (kN, 2, .inl (fun k => b2i (mi k)))), (bM, .inr (3, [.int cd, .int wd, .ref bT, .ref bF, .int al, .ref bN, .ref bP, .ref bQ, .ref bR, .int sz1, .int un, .int (b2i mo), .int tl, .int (b2i sp), .int tpo, .long fro, .int (b2i ly)])), (bP, .inl (kP, 2, .inl pw)), (bQ, .inl (kQ, 2, .inr (.inl pt)))] H := hP
            have hD : va_D A [(bN, .inl (kN, 2, .inl (fun k => b2i (mi k)))), (bM, .inr (3, [.int cd, .int wd, .ref bT, .ref bF, .int al, .ref bN, .ref bP, .ref bQ, .ref bR, .int sz1, .int un, .int (b2i mo), .int tl, .int (b2i sp), .int tpo, .long fro, .int (b2i ly)])), (bP, .inl (kP, 2, .inl pw)), (bQ, .inl (kQ, 2, .inr (.inl pt)))] := hD
            refine lv_if_eq (tgt := 64) hx hb d_M_isWrong_53 (by decide) (fun c_53 => ?_) (fun c_53 => ?_)
            · skip
              have c_53 : ¬ (g_M_isEndless pw pt 0) = true := b2i_z c_53
              refine lv_iconst (v := 0) hx hb d_M_isWrong_64 (by decide) ?_
              have hE : g_M_isWrong wd mi pw pt iop = (false) := by clear hP hD hl hS; subst ej16_0; unfold g_M_isWrong; (try dsimp only); rw [if_pos c_20, if_pos c_29, if_pos c_37, if_neg c_45, if_neg c_53]
              have hP9 : va_P (dC, dI) classes [(bM, .inr (3, [.int cd, .int wd, .ref bT, .ref bF, .int al, .ref bN, .ref bP, .ref bQ, .ref bR, .int sz1, .int un, .int (b2i mo), .int tl, .int (b2i sp), .int tpo, .long fro, .int (b2i ly)])), (bN, .inl (kN, 2, .inl (fun k => b2i (mi k)))), (bP, .inl (kP, 2, .inl pw)), (bQ, .inl (kQ, 2, .inr (.inl pt)))] H := by exact hP.sub [1, 0, 2, 3] rfl
              have hD9 : va_D A [(bM, .inr (3, [.int cd, .int wd, .ref bT, .ref bF, .int al, .ref bN, .ref bP, .ref bQ, .ref bR, .int sz1, .int un, .int (b2i mo), .int tl, .int (b2i sp), .int tpo, .long fro, .int (b2i ly)])), (bN, .inl (kN, 2, .inl (fun k => b2i (mi k)))), (bP, .inl (kP, 2, .inl pw)), (bQ, .inl (kQ, 2, .inr (.inl pt)))] := by exact hD.sub [1, 0, 2, 3] (by decide) rfl
              exact W.zret (v := 0) hx hb hr (by first | exact nar_b2i _ | rfl) (fun t ht hW => ⟨⟨0, (), rfl, by rw [hE]; rfl, by rw [ht]; exact hP9, hD9⟩, hS.F ht⟩) hS.2.2 d_M_isWrong_65
            · skip
              have c_53 : (g_M_isEndless pw pt 0) = true := b2i_nz c_53
              refine lv_iload_n hx hb d_M_isWrong_56 rfl (lv_at hl 0 rfl) ?_
              refine lv_if_eq (tgt := 64) hx hb d_M_isWrong_57 (by decide) (fun c_57 => ?_) (fun c_57 => ?_)
              · skip
                have c_57 : ¬ j16_0 = true := b2i_z c_57
                refine lv_iconst (v := 0) hx hb d_M_isWrong_64 (by decide) ?_
                have hE : g_M_isWrong wd mi pw pt iop = (false) := by clear hP hD hl hS; subst ej16_0; unfold g_M_isWrong; (try dsimp only); rw [if_pos c_20, if_pos c_29, if_pos c_37, if_neg c_45, if_pos c_53, if_neg c_57]
                have hP9 : va_P (dC, dI) classes [(bM, .inr (3, [.int cd, .int wd, .ref bT, .ref bF, .int al, .ref bN, .ref bP, .ref bQ, .ref bR, .int sz1, .int un, .int (b2i mo), .int tl, .int (b2i sp), .int tpo, .long fro, .int (b2i ly)])), (bN, .inl (kN, 2, .inl (fun k => b2i (mi k)))), (bP, .inl (kP, 2, .inl pw)), (bQ, .inl (kQ, 2, .inr (.inl pt)))] H := by exact hP.sub [1, 0, 2, 3] rfl
                have hD9 : va_D A [(bM, .inr (3, [.int cd, .int wd, .ref bT, .ref bF, .int al, .ref bN, .ref bP, .ref bQ, .ref bR, .int sz1, .int un, .int (b2i mo), .int tl, .int (b2i sp), .int tpo, .long fro, .int (b2i ly)])), (bN, .inl (kN, 2, .inl (fun k => b2i (mi k)))), (bP, .inl (kP, 2, .inl pw)), (bQ, .inl (kQ, 2, .inr (.inl pt)))] := by exact hD.sub [1, 0, 2, 3] (by decide) rfl
                exact W.zret (v := 0) hx hb hr (by first | exact nar_b2i _ | rfl) (fun t ht hW => ⟨⟨0, (), rfl, by rw [hE]; rfl, by rw [ht]; exact hP9, hD9⟩, hS.F ht⟩) hS.2.2 d_M_isWrong_65
              · skip
                have c_57 : j16_0 = true := b2i_nz c_57
                refine lv_iconst (v := 1) hx hb d_M_isWrong_60 (by decide) ?_
                refine lv_goto (tgt := 65) hx hb d_M_isWrong_61 (by decide) ?_
                have hE : g_M_isWrong wd mi pw pt iop = (true) := by clear hP hD hl hS; subst ej16_0; unfold g_M_isWrong; (try dsimp only); rw [if_pos c_20, if_pos c_29, if_pos c_37, if_neg c_45, if_pos c_53, if_pos c_57]
                have hP9 : va_P (dC, dI) classes [(bM, .inr (3, [.int cd, .int wd, .ref bT, .ref bF, .int al, .ref bN, .ref bP, .ref bQ, .ref bR, .int sz1, .int un, .int (b2i mo), .int tl, .int (b2i sp), .int tpo, .long fro, .int (b2i ly)])), (bN, .inl (kN, 2, .inl (fun k => b2i (mi k)))), (bP, .inl (kP, 2, .inl pw)), (bQ, .inl (kQ, 2, .inr (.inl pt)))] H := by exact hP.sub [1, 0, 2, 3] rfl
                have hD9 : va_D A [(bM, .inr (3, [.int cd, .int wd, .ref bT, .ref bF, .int al, .ref bN, .ref bP, .ref bQ, .ref bR, .int sz1, .int un, .int (b2i mo), .int tl, .int (b2i sp), .int tpo, .long fro, .int (b2i ly)])), (bN, .inl (kN, 2, .inl (fun k => b2i (mi k)))), (bP, .inl (kP, 2, .inl pw)), (bQ, .inl (kQ, 2, .inr (.inl pt)))] := by exact hD.sub [1, 0, 2, 3] (by decide) rfl
                exact W.zret (v := 1) hx hb hr (by first | exact nar_b2i _ | rfl) (fun t ht hW => ⟨⟨1, (), rfl, by rw [hE]; rfl, by rw [ht]; exact hP9, hD9⟩, hS.F ht⟩) hS.2.2 d_M_isWrong_65
  · skip
    refine lv_if_ne (tgt := 15) hx hb d_M_isWrong_8 (by decide) (fun c_8 => ?_) (fun c_8 => ?_)
    · skip
      refine lv_iconst (v := 0) hx hb d_M_isWrong_15 (by decide) ?_
      exact J16 (false) H locs ls ⟨by clear hP hD hl hS; (try dsimp only); rw [if_neg c_8], hP.sub [0, 1, 2, 3] rfl, hD.sub [0, 1, 2, 3] (by decide) rfl, hS, lv_sub hl [0, 1] rfl⟩
    · skip
      refine lv_iconst (v := 1) hx hb d_M_isWrong_11 (by decide) ?_
      refine lv_goto (tgt := 16) hx hb d_M_isWrong_12 (by decide) ?_
      exact J16 (true) H locs ls ⟨by clear hP hD hl hS; (try dsimp only); rw [if_pos c_8], hP.sub [0, 1, 2, 3] rfl, hD.sub [0, 1, 2, 3] (by decide) rfl, hS, lv_sub hl [0, 1] rfl⟩
