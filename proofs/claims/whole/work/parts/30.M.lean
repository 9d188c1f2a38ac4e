theorem d_M_product_0 : decode b_M_product 0 = .ok (.aload_n 0, 1) := by decide +kernel
theorem d_M_product_1 : decode b_M_product 1 = .ok (.sipush 130, 3) := by decide +kernel
theorem d_M_product_4 : decode b_M_product 4 = .ok (.aload_n 0, 1) := by decide +kernel
theorem d_M_product_5 : decode b_M_product 5 = .ok (.iconst 0, 1) := by decide +kernel
theorem d_M_product_6 : decode b_M_product 6 = .ok (.invokevirtual 106, 3) := by decide +kernel
theorem d_M_product_9 : decode b_M_product 9 = .ok (.aload_n 0, 1) := by decide +kernel
theorem d_M_product_10 : decode b_M_product 10 = .ok (.iconst 1, 1) := by decide +kernel
theorem d_M_product_11 : decode b_M_product 11 = .ok (.invokevirtual 106, 3) := by decide +kernel
theorem d_M_product_14 : decode b_M_product 14 = .ok (.iadd, 1) := by decide +kernel
theorem d_M_product_15 : decode b_M_product 15 = .ok (.invokevirtual 114, 3) := by decide +kernel
theorem d_M_product_18 : decode b_M_product 18 = .ok (.iconst 0, 1) := by decide +kernel
theorem d_M_product_19 : decode b_M_product 19 = .ok (.istore_n 2, 1) := by decide +kernel
theorem d_M_product_20 : decode b_M_product 20 = .ok (.iload_n 2, 1) := by decide +kernel
theorem d_M_product_21 : decode b_M_product 21 = .ok (.bipush 64, 2) := by decide +kernel
theorem d_M_product_23 : decode b_M_product 23 = .ok (.if_icmp .ge 36, 3) := by decide +kernel
theorem d_M_product_26 : decode b_M_product 26 = .ok (.aload_n 0, 1) := by decide +kernel
theorem d_M_product_27 : decode b_M_product 27 = .ok (.getfield 28, 3) := by decide +kernel
theorem d_M_product_30 : decode b_M_product 30 = .ok (.iconst 1, 1) := by decide +kernel
theorem d_M_product_31 : decode b_M_product 31 = .ok (.laload, 1) := by decide +kernel
theorem d_M_product_32 : decode b_M_product 32 = .ok (.iload_n 2, 1) := by decide +kernel
theorem d_M_product_33 : decode b_M_product 33 = .ok (.lshr, 1) := by decide +kernel
theorem d_M_product_34 : decode b_M_product 34 = .ok (.lconst 1, 1) := by decide +kernel
theorem d_M_product_35 : decode b_M_product 35 = .ok (.land, 1) := by decide +kernel
theorem d_M_product_36 : decode b_M_product 36 = .ok (.lconst 1, 1) := by decide +kernel
theorem d_M_product_37 : decode b_M_product 37 = .ok (.lcmp, 1) := by decide +kernel
theorem d_M_product_38 : decode b_M_product 38 = .ok (.ifCond .ne 15, 3) := by decide +kernel
theorem d_M_product_41 : decode b_M_product 41 = .ok (.aload_n 0, 1) := by decide +kernel
theorem d_M_product_42 : decode b_M_product 42 = .ok (.aload_n 0, 1) := by decide +kernel
theorem d_M_product_43 : decode b_M_product 43 = .ok (.getfield 28, 3) := by decide +kernel
theorem d_M_product_46 : decode b_M_product 46 = .ok (.iconst 0, 1) := by decide +kernel
theorem d_M_product_47 : decode b_M_product 47 = .ok (.laload, 1) := by decide +kernel
theorem d_M_product_48 : decode b_M_product 48 = .ok (.iload_n 2, 1) := by decide +kernel
theorem d_M_product_49 : decode b_M_product 49 = .ok (.iconst 0, 1) := by decide +kernel
theorem d_M_product_50 : decode b_M_product 50 = .ok (.invokevirtual 118, 3) := by decide +kernel
theorem d_M_product_53 : decode b_M_product 53 = .ok (.iinc 2 1, 3) := by decide +kernel
theorem d_M_product_56 : decode b_M_product 56 = .ok (.goto (-36), 3) := by decide +kernel
theorem d_M_product_59 : decode b_M_product 59 = .ok (.aload_n 0, 1) := by decide +kernel
theorem d_M_product_60 : decode b_M_product 60 = .ok (.invokevirtual 89, 3) := by decide +kernel
theorem d_M_product_63 : decode b_M_product 63 = .ok (.ifCond .lt 11, 3) := by decide +kernel
theorem d_M_product_74 : decode b_M_product 74 = .ok (.aload_n 0, 1) := by decide +kernel
theorem d_M_product_75 : decode b_M_product 75 = .ok (.iload_n 1, 1) := by decide +kernel
theorem d_M_product_76 : decode b_M_product 76 = .ok (.iconst 0, 1) := by decide +kernel
theorem d_M_product_77 : decode b_M_product 77 = .ok (.lconst 0, 1) := by decide +kernel
theorem d_M_product_78 : decode b_M_product 78 = .ok (.invokevirtual 83, 3) := by decide +kernel
theorem d_M_product_81 : decode b_M_product 81 = .ok (.return_, 1) := by decide +kernel
theorem d_M_product_66 : decode b_M_product 66 = .ok (.aload_n 0, 1) := by decide +kernel
theorem d_M_product_67 : decode b_M_product 67 = .ok (.iload_n 1, 1) := by decide +kernel
theorem d_M_product_68 : decode b_M_product 68 = .ok (.invokevirtual 122, 3) := by decide +kernel
theorem d_M_product_71 : decode b_M_product 71 = .ok (.goto 10, 3) := by decide +kernel
set_option maxHeartbeats 4000000 in
set_option maxRecDepth 100000 in
theorem c_M_product (l : Launch) (dC : Nat → ClassId) (dI : Nat → Nat → Nat) (kN : ClassId) (kP : ClassId) (kQ : ClassId) (kR : ClassId) (bM : Nat) (bN : Nat) (bP : Nat) (bQ : Nat) (bR : Nat) (bT : Nat) (bF : Nat) (sz : Nat) (cd : Int32) (wd : Int32) (al : Int32) (sz1 : Int32) (un : Int32) (mo : Bool) (tl : Int32) (sp : Bool) (tpo : Int32) (fro : Int64) (ly : Bool) (mi : Nat → Bool) (pw : Nat → Int32) (pt : Nat → Int64) (rb : Nat → Bool) (bs : Bool) : Met l y_M_product w_M_product ({ frames := 3, cells := 0, slots := 0, locals := 86 }) (cPc (dC, dI) [(kN, .boolean), (kP, .int), (kQ, .long), (kR, .boolean)] [.ref bM, .int (b2i bs)] [(bM, .inr (3, [.int cd, .int wd, .ref bT, .ref bF, .int al, .ref bN, .ref bP, .ref bQ, .ref bR, .int sz1, .int un, .int (b2i mo), .int tl, .int (b2i sp), .int tpo, .long fro, .int (b2i ly)])), (bN, .inl (kN, 2, .inl (fun k => b2i (mi k)))), (bP, .inl (kP, 2, .inl pw)), (bQ, .inl (kQ, 2, .inr (.inl pt))), (bR, .inl (kR, 33000, .inl (fun k => b2i (rb k))))] sz) (va_Qv (fun (_ : Unit) => True) (fun _ t => va_P (dC, dI) classes [(bM, .inr (3, [.int cd, .int wd, .ref bT, .ref bF, .int al, .ref bN, .ref bP, .ref bQ, .ref bR, .int 130, .int ((g_M_product wd tl ly pw pt rb bs).1), .int (b2i false), .int ((g_M_product wd tl ly pw pt rb bs).2.1), .int (b2i sp), .int ((g_M_product wd tl ly pw pt rb bs).2.2.1), .long ((g_M_product wd tl ly pw pt rb bs).2.2.2.1), .int (b2i ((g_M_product wd tl ly pw pt rb bs).2.2.2.2.1))])), (bN, .inl (kN, 2, .inl (fun k => b2i (mi k)))), (bP, .inl (kP, 2, .inl pw)), (bQ, .inl (kQ, 2, .inr (.inl pt))), (bR, .inl (kR, 33000, .inl (fun k => b2i (((g_M_product wd tl ly pw pt rb bs).2.2.2.2.2) k))))] t.heap ∧ va_D (va_A [(bM, .inr (3, [.int cd, .int wd, .ref bT, .ref bF, .int al, .ref bN, .ref bP, .ref bQ, .ref bR, .int sz1, .int un, .int (b2i mo), .int tl, .int (b2i sp), .int tpo, .long fro, .int (b2i ly)])), (bN, .inl (kN, 2, .inl (fun k => b2i (mi k)))), (bP, .inl (kP, 2, .inl pw)), (bQ, .inl (kQ, 2, .inr (.inl pt))), (bR, .inl (kR, 33000, .inl (fun k => b2i (rb k))))] sz) [(bM, .inr (3, [.int cd, .int wd, .ref bT, .ref bF, .int al, .ref bN, .ref bP, .ref bQ, .ref bR, .int 130, .int ((g_M_product wd tl ly pw pt rb bs).1), .int (b2i false), .int ((g_M_product wd tl ly pw pt rb bs).2.1), .int (b2i sp), .int ((g_M_product wd tl ly pw pt rb bs).2.2.1), .long ((g_M_product wd tl ly pw pt rb bs).2.2.2.1), .int (b2i ((g_M_product wd tl ly pw pt rb bs).2.2.2.2.1))])), (bN, .inl (kN, 2, .inl (fun k => b2i (mi k)))), (bP, .inl (kP, 2, .inl pw)), (bQ, .inl (kQ, 2, .inr (.inl pt))), (bR, .inl (kR, 33000, .inl (fun k => b2i (((g_M_product wd tl ly pw pt rb bs).2.2.2.2.2) k))))]) (va_A [(bM, .inr (3, [.int cd, .int wd, .ref bT, .ref bF, .int al, .ref bN, .ref bP, .ref bQ, .ref bR, .int sz1, .int un, .int (b2i mo), .int tl, .int (b2i sp), .int tpo, .long fro, .int (b2i ly)])), (bN, .inl (kN, 2, .inl (fun k => b2i (mi k)))), (bP, .inl (kP, 2, .inl pw)), (bQ, .inl (kQ, 2, .inr (.inl pt))), (bR, .inl (kR, 33000, .inl (fun k => b2i (rb k))))] sz)) 0 0 (va_A [(bM, .inr (3, [.int cd, .int wd, .ref bT, .ref bF, .int al, .ref bN, .ref bP, .ref bQ, .ref bR, .int sz1, .int un, .int (b2i mo), .int tl, .int (b2i sp), .int tpo, .long fro, .int (b2i ly)])), (bN, .inl (kN, 2, .inl (fun k => b2i (mi k)))), (bP, .inl (kP, 2, .inl pw)), (bQ, .inl (kQ, 2, .inr (.inl pt))), (bR, .inl (kR, 33000, .inl (fun k => b2i (rb k))))] sz) := by
  refine Met.ofW (cc := b_M_product) (maxL := 3) (ret := none) (by decide) rfl ?_
  intro p e s m args below meth c s₁ B hml hv
  obtain ⟨rfl, hsz, hP, hK, hD0, hnw⟩ := hv
  have hx := B.exec
  have hb := B.bytes
  have hr := B.returns
  have hts := atoms_spec (ws := w_M_product) B.pre
  have htA : ∀ w ∈ wAll, w.before _ s = true := fun w h => hts w (List.mem_cons_of_mem _ h)
  have hown : s.vm.findClass R_M = some m.cls := findClass_of_methodNamed B.named
  have hlocks := B.notSynchronized
  subst hsz
  have hD := hD0.self (sz := s.heap.size)
  generalize hAe : va_A [(bM, .inr (3, [.int cd, .int wd, .ref bT, .ref bF, .int al, .ref bN, .ref bP, .ref bQ, .ref bR, .int sz1, .int un, .int (b2i mo), .int tl, .int (b2i sp), .int tpo, .long fro, .int (b2i ly)])), (bN, .inl (kN, 2, .inl (fun k => b2i (mi k)))), (bP, .inl (kP, 2, .inl pw)), (bQ, .inl (kQ, 2, .inr (.inl pt))), (bR, .inl (kR, 33000, .inl (fun k => b2i (rb k))))] s.heap.size = A at hD ⊢
  have hA : ∀ q : Nat, s.heap.size ≤ q → A q := fun q h => by rw [← hAe]; exact Or.inr h
  have hS : va_S A s.heap s.heap [] := va_S.rf
  have hP : va_P (dC, dI) classes [(bM, .inr (3, [.int cd, .int wd, .ref bT, .ref bF, .int al, .ref bN, .ref bP, .ref bQ, .ref bR, .int sz1, .int un, .int (b2i mo), .int tl, .int (b2i sp), .int tpo, .long fro, .int (b2i ly)])), (bN, .inl (kN, 2, .inl (fun k => b2i (mi k)))), (bP, .inl (kP, 2, .inl pw)), (bQ, .inl (kQ, 2, .inr (.inl pt))), (bR, .inl (kR, 33000, .inl (fun k => b2i (rb k))))] s.heap := hP
  obtain ⟨H, eH⟩ : ∃ z, z = s.heap := ⟨_, rfl⟩
  rw [← eH] at hP
  have hS : va_S A s.heap H [] := by rw [eH]; exact hS
  rw [← eH]
  generalize ([] : List Loc) = locs at hS ⊢
  have hl := lv_entry ([.ref bM, .int (b2i bs)]) (n := 3) (Nat.le_of_ble_eq_true rfl)
  rw [lg_entry_eq]
  generalize (lg_sl ([.ref bM, .int (b2i bs)]) ++ List.replicate (3 - (lg_sl ([.ref bM, .int (b2i bs)])).length) Slot.unset).toArray = ls at hl ⊢
  have hl : lv_has ls 3 [(0, .ref bM), (1, .int (b2i bs))] := hl
  refine lv_aload_n hx hb d_M_product_0 rfl (lv_at hl 0 rfl) ?_
  refine lv_sipush (v := 130) hx hb d_M_product_1 (by decide) ?_
  refine lv_aload_n hx hb d_M_product_4 rfl (lv_at hl 0 rfl) ?_
  refine lv_iconst (v := 0) hx hb d_M_product_5 (by decide) ?_
  have hPc := hP.sub (ws' := [(bM, .inr (3, [.int cd, .int wd, .ref bT, .ref bF, .int al, .ref bN, .ref bP, .ref bQ, .ref bR, .int sz1, .int un, .int (b2i mo), .int tl, .int (b2i sp), .int tpo, .long fro, .int (b2i ly)])), (bP, .inl (kP, 2, .inl pw))]) [0, 2] rfl
  have hDc := hD.sub (ws' := [(bM, .inr (3, [.int cd, .int wd, .ref bT, .ref bF, .int al, .ref bN, .ref bP, .ref bQ, .ref bR, .int sz1, .int un, .int (b2i mo), .int tl, .int (b2i sp), .int tpo, .long fro, .int (b2i ly)])), (bP, .inl (kP, 2, .inl pw))]) [0, 2] (by decide) rfl
  have hKc := hK.sub (tys' := [(kP, .int)]) [1] rfl
  have hFc := va_free (wc := [(bM, .inr (3, [.int cd, .int wd, .ref bT, .ref bF, .int al, .ref bN, .ref bP, .ref bQ, .ref bR, .int sz1, .int un, .int (b2i mo), .int tl, .int (b2i sp), .int tpo, .long fro, .int (b2i ly)])), (bP, .inl (kP, 2, .inl pw))]) hD hS hA [0, 2] rfl
  refine cc_i (va_runV (As := [.int 0]) (rest := [.int 130, .ref bM]) ⟨hx, hb, hml, hown, htA⟩ (c_M_unitOf l dC dI kP bM bP bT bF bN bQ bR H.size cd wd al sz1 un mo tl sp tpo fro ly pw 0 in2_0) (cwV 1 htA (gi_V k_308 k_309 k_310 k_263 (gi_code k_262)) rfl rfl rfl (by decide +kernel) ⟨Nat.le_of_ble_eq_true rfl, Nat.le_of_ble_eq_true rfl⟩) (pre_V hnw hPc hKc hDc (ci := 3) (q0 := 0) rfl rfl) rfl rfl hl.1 rfl (lv_room (Nat.le_of_ble_eq_true rfl)) d_M_product_6 ⟨Nat.le_of_ble_eq_true rfl, Nat.le_of_ble_eq_true rfl⟩) hS hFc hP hD [0, 2] [1, 3, 4] (wr := [(bN, .inl (kN, 2, .inl (fun k => b2i (mi k)))), (bQ, .inl (kQ, 2, .inr (.inl pt))), (bR, .inl (kR, 33000, .inl (fun k => b2i (rb k))))]) rfl rfl (by decide) (by decide) (fun H locs hP hD hS => ?_)
  have hP : va_P (dC, dI) classes [(bN, .inl (kN, 2, .inl (fun k => b2i (mi k)))), (bQ, .inl (kQ, 2, .inr (.inl pt))), (bR, .inl (kR, 33000, .inl (fun k => b2i (rb k)))), (bM, .inr (3, [.int cd, .int wd, .ref bT, .ref bF, .int al, .ref bN, .ref bP, .ref bQ, .ref bR, .int sz1, .int un, .int (b2i mo), .int tl, .int (b2i sp), .int tpo, .long fro, .int (b2i ly)])), (bP, .inl (kP, 2, .inl pw))] H := hP
  have hD : va_D A [(bN, .inl (kN, 2, .inl (fun k => b2i (mi k)))), (bQ, .inl (kQ, 2, .inr (.inl pt))), (bR, .inl (kR, 33000, .inl (fun k => b2i (rb k)))), (bM, .inr (3, [.int cd, .int wd, .ref bT, .ref bF, .int al, .ref bN, .ref bP, .ref bQ, .ref bR, .int sz1, .int un, .int (b2i mo), .int tl, .int (b2i sp), .int tpo, .long fro, .int (b2i ly)])), (bP, .inl (kP, 2, .inl pw))] := hD
  refine lv_aload_n hx hb d_M_product_9 rfl (lv_at hl 0 rfl) ?_
  refine lv_iconst (v := 1) hx hb d_M_product_10 (by decide) ?_
  have hPc := hP.sub (ws' := [(bM, .inr (3, [.int cd, .int wd, .ref bT, .ref bF, .int al, .ref bN, .ref bP, .ref bQ, .ref bR, .int sz1, .int un, .int (b2i mo), .int tl, .int (b2i sp), .int tpo, .long fro, .int (b2i ly)])), (bP, .inl (kP, 2, .inl pw))]) [3, 4] rfl
  have hDc := hD.sub (ws' := [(bM, .inr (3, [.int cd, .int wd, .ref bT, .ref bF, .int al, .ref bN, .ref bP, .ref bQ, .ref bR, .int sz1, .int un, .int (b2i mo), .int tl, .int (b2i sp), .int tpo, .long fro, .int (b2i ly)])), (bP, .inl (kP, 2, .inl pw))]) [3, 4] (by decide) rfl
  have hKc := hK.sub (tys' := [(kP, .int)]) [1] rfl
  have hFc := va_free (wc := [(bM, .inr (3, [.int cd, .int wd, .ref bT, .ref bF, .int al, .ref bN, .ref bP, .ref bQ, .ref bR, .int sz1, .int un, .int (b2i mo), .int tl, .int (b2i sp), .int tpo, .long fro, .int (b2i ly)])), (bP, .inl (kP, 2, .inl pw))]) hD hS hA [3, 4] rfl
  refine cc_i (va_runV (As := [.int 1]) (rest := [.int (g_M_unitOf pw 0), .int 130, .ref bM]) ⟨hx, hb, hml, hown, htA⟩ (c_M_unitOf l dC dI kP bM bP bT bF bN bQ bR H.size cd wd al sz1 un mo tl sp tpo fro ly pw 1 in2_1) (cwV 1 htA (gi_V k_308 k_309 k_310 k_263 (gi_code k_262)) rfl rfl rfl (by decide +kernel) ⟨Nat.le_of_ble_eq_true rfl, Nat.le_of_ble_eq_true rfl⟩) (pre_V hnw hPc hKc hDc (ci := 3) (q0 := 0) rfl rfl) rfl rfl hl.1 rfl (lv_room (Nat.le_of_ble_eq_true rfl)) d_M_product_11 ⟨Nat.le_of_ble_eq_true rfl, Nat.le_of_ble_eq_true rfl⟩) hS hFc hP hD [3, 4] [0, 1, 2] (wr := [(bN, .inl (kN, 2, .inl (fun k => b2i (mi k)))), (bQ, .inl (kQ, 2, .inr (.inl pt))), (bR, .inl (kR, 33000, .inl (fun k => b2i (rb k))))]) rfl rfl (by decide) (by decide) (fun H locs hP hD hS => ?_)
  have hP : va_P (dC, dI) classes [(bN, .inl (kN, 2, .inl (fun k => b2i (mi k)))), (bQ, .inl (kQ, 2, .inr (.inl pt))), (bR, .inl (kR, 33000, .inl (fun k => b2i (rb k)))), (bM, .inr (3, [.int cd, .int wd, .ref bT, .ref bF, .int al, .ref bN, .ref bP, .ref bQ, .ref bR, .int sz1, .int un, .int (b2i mo), .int tl, .int (b2i sp), .int tpo, .long fro, .int (b2i ly)])), (bP, .inl (kP, 2, .inl pw))] H := hP
  have hD : va_D A [(bN, .inl (kN, 2, .inl (fun k => b2i (mi k)))), (bQ, .inl (kQ, 2, .inr (.inl pt))), (bR, .inl (kR, 33000, .inl (fun k => b2i (rb k)))), (bM, .inr (3, [.int cd, .int wd, .ref bT, .ref bF, .int al, .ref bN, .ref bP, .ref bQ, .ref bR, .int sz1, .int un, .int (b2i mo), .int tl, .int (b2i sp), .int tpo, .long fro, .int (b2i ly)])), (bP, .inl (kP, 2, .inl pw))] := hD
  refine lv_iadd hx hb d_M_product_14 ?_
  have hPc := hP.sub (ws' := [(bM, .inr (3, [.int cd, .int wd, .ref bT, .ref bF, .int al, .ref bN, .ref bP, .ref bQ, .ref bR, .int sz1, .int un, .int (b2i mo), .int tl, .int (b2i sp), .int tpo, .long fro, .int (b2i ly)])), (bR, .inl (kR, 33000, .inl (fun k => b2i (rb k))))]) [3, 2] rfl
  have hDc := hD.sub (ws' := [(bM, .inr (3, [.int cd, .int wd, .ref bT, .ref bF, .int al, .ref bN, .ref bP, .ref bQ, .ref bR, .int sz1, .int un, .int (b2i mo), .int tl, .int (b2i sp), .int tpo, .long fro, .int (b2i ly)])), (bR, .inl (kR, 33000, .inl (fun k => b2i (rb k))))]) [3, 2] (by decide) rfl
  have hKc := hK.sub (tys' := [(kR, .boolean)]) [3] rfl
  have hFc := va_free (wc := [(bM, .inr (3, [.int cd, .int wd, .ref bT, .ref bF, .int al, .ref bN, .ref bP, .ref bQ, .ref bR, .int sz1, .int un, .int (b2i mo), .int tl, .int (b2i sp), .int tpo, .long fro, .int (b2i ly)])), (bR, .inl (kR, 33000, .inl (fun k => b2i (rb k))))]) hD hS hA [3, 2] rfl
  refine cc_v (va_runV (As := [.int 130, .int ((g_M_unitOf pw 0) + (g_M_unitOf pw 1))]) (rest := []) ⟨hx, hb, hml, hown, htA⟩ (c_M_empty l dC dI kR bM bR bT bF bN bP bQ H.size cd wd al sz1 un mo tl sp tpo fro ly rb 130 ((g_M_unitOf pw 0) + (g_M_unitOf pw 1)) okz_130) (cwV 2 htA (gi_V k_316 k_317 k_318 k_263 (gi_code k_306)) rfl rfl rfl (by decide +kernel) ⟨Nat.le_of_ble_eq_true rfl, Nat.le_of_ble_eq_true rfl⟩) (pre_V hnw hPc hKc hDc (ci := 3) (q0 := 0) rfl rfl) rfl rfl hl.1 rfl (lv_room (Nat.le_of_ble_eq_true rfl)) d_M_product_15 ⟨Nat.le_of_ble_eq_true rfl, Nat.le_of_ble_eq_true rfl⟩) hS hFc hP hD [3, 2] [0, 1, 4] (wr := [(bN, .inl (kN, 2, .inl (fun k => b2i (mi k)))), (bQ, .inl (kQ, 2, .inr (.inl pt))), (bP, .inl (kP, 2, .inl pw))]) rfl rfl (by decide) (by decide) (fun H locs hP hD hS => ?_)
  have hP : va_P (dC, dI) classes [(bN, .inl (kN, 2, .inl (fun k => b2i (mi k)))), (bQ, .inl (kQ, 2, .inr (.inl pt))), (bP, .inl (kP, 2, .inl pw)), (bM, .inr (3, [.int cd, .int wd, .ref bT, .ref bF, .int al, .ref bN, .ref bP, .ref bQ, .ref bR, .int 130, .int ((g_M_unitOf pw 0) + (g_M_unitOf pw 1)), .int (b2i false), .int tl, .int (b2i sp), .int tpo, .long fro, .int (b2i ly)])), (bR, .inl (kR, 33000, .inl (fun k => b2i ((g_M_empty rb 130) k))))] H := hP
  have hD : va_D A [(bN, .inl (kN, 2, .inl (fun k => b2i (mi k)))), (bQ, .inl (kQ, 2, .inr (.inl pt))), (bP, .inl (kP, 2, .inl pw)), (bM, .inr (3, [.int cd, .int wd, .ref bT, .ref bF, .int al, .ref bN, .ref bP, .ref bQ, .ref bR, .int 130, .int ((g_M_unitOf pw 0) + (g_M_unitOf pw 1)), .int (b2i false), .int tl, .int (b2i sp), .int tpo, .long fro, .int (b2i ly)])), (bR, .inl (kR, 33000, .inl (fun k => b2i ((g_M_empty rb 130) k))))] := hD
  refine lv_iconst (v := 0) hx hb d_M_product_18 (by decide) ?_
  refine lv_istore_n (lv' := [(2, .int 0), (0, .ref bM), (1, .int (b2i bs))]) hx hb d_M_product_19 rfl hl (by decide) rfl (fun ls hl => ?_)
  refine loop_cut (S := Int32 × (Nat → Bool)) (nx_M_product_20 pt) 64 (0, (g_M_empty rb 130)) (M_product_end ..) 0 0 (fun (x : Int32 × (Nat → Bool)) (H : Heap) (locs : List Loc) (ls : Array Slot) => 0 ≤ x.1.toInt ∧ va_P (dC, dI) classes [(bN, .inl (kN, 2, .inl (fun k => b2i (mi k)))), (bQ, .inl (kQ, 2, .inr (.inl pt))), (bP, .inl (kP, 2, .inl pw)), (bM, .inr (3, [.int cd, .int wd, .ref bT, .ref bF, .int al, .ref bN, .ref bP, .ref bQ, .ref bR, .int 130, .int ((g_M_unitOf pw 0) + (g_M_unitOf pw 1)), .int (b2i false), .int tl, .int (b2i sp), .int tpo, .long fro, .int (b2i ly)])), (bR, .inl (kR, 33000, .inl (fun k => b2i (x.2 k))))] H ∧ va_D A [(bN, .inl (kN, 2, .inl (fun k => b2i (mi k)))), (bQ, .inl (kQ, 2, .inr (.inl pt))), (bP, .inl (kP, 2, .inl pw)), (bM, .inr (3, [.int cd, .int wd, .ref bT, .ref bF, .int al, .ref bN, .ref bP, .ref bQ, .ref bR, .int 130, .int ((g_M_unitOf pw 0) + (g_M_unitOf pw 1)), .int (b2i false), .int tl, .int (b2i sp), .int tpo, .long fro, .int (b2i ly)])), (bR, .inl (kR, 33000, .inl (fun k => b2i (x.2 k))))] ∧ va_S A s.heap H locs ∧ lv_has ls 3 [(0, .ref bM), (1, .int (b2i bs)), (2, .int x.1)]) (fun x ls => F0 m 20 ls []) (fun x ls => F0 m 59 ls []) ?_ ?_ H locs ls ⟨nn_0, hP.sub [0, 1, 2, 3, 4] rfl, hD.sub [0, 1, 2, 3, 4] (by decide) rfl, hS, lv_sub hl [1, 2, 0] rfl⟩
  · skip
    rintro ⟨v20_0, v20_1⟩ hex hbk H locs ls ⟨hinv, hP, hD, hS, hl⟩
    have hinv : 0 ≤ v20_0.toInt := hinv
    have hP : va_P (dC, dI) classes [(bN, .inl (kN, 2, .inl (fun k => b2i (mi k)))), (bQ, .inl (kQ, 2, .inr (.inl pt))), (bP, .inl (kP, 2, .inl pw)), (bM, .inr (3, [.int cd, .int wd, .ref bT, .ref bF, .int al, .ref bN, .ref bP, .ref bQ, .ref bR, .int 130, .int ((g_M_unitOf pw 0) + (g_M_unitOf pw 1)), .int (b2i false), .int tl, .int (b2i sp), .int tpo, .long fro, .int (b2i ly)])), (bR, .inl (kR, 33000, .inl (fun k => b2i (v20_1 k))))] H := hP
    have hD : va_D A [(bN, .inl (kN, 2, .inl (fun k => b2i (mi k)))), (bQ, .inl (kQ, 2, .inr (.inl pt))), (bP, .inl (kP, 2, .inl pw)), (bM, .inr (3, [.int cd, .int wd, .ref bT, .ref bF, .int al, .ref bN, .ref bP, .ref bQ, .ref bR, .int 130, .int ((g_M_unitOf pw 0) + (g_M_unitOf pw 1)), .int (b2i false), .int tl, .int (b2i sp), .int tpo, .long fro, .int (b2i ly)])), (bR, .inl (kR, 33000, .inl (fun k => b2i (v20_1 k))))] := hD
    have hl : lv_has ls 3 [(0, .ref bM), (1, .int (b2i bs)), (2, .int v20_0)] := hl
    refine lv_iload_n hx hb d_M_product_20 rfl (lv_at hl 2 rfl) ?_
    refine lv_bipush (v := 64) hx hb d_M_product_21 (by decide) ?_
    refine lv_icmp_ge (tgt := 59) hx hb d_M_product_23 (by decide) (fun c_23 => ?_) (fun c_23 => ?_)
    · skip
      exact hex (by clear hP hD hl hS; unfold nx_M_product_20; (try dsimp only); rw [if_pos c_23]) H locs ls ⟨hinv, hP.sub [0, 1, 2, 3, 4] rfl, hD.sub [0, 1, 2, 3, 4] (by decide) rfl, hS, lv_sub hl [0, 1, 2] rfl⟩
    · skip
      refine lv_aload_n hx hb d_M_product_26 rfl (lv_at hl 0 rfl) ?_
      refine va_get (D := (dC, dI)) (ci := 3) (v := .ref bQ) (C := R_M) (T := F_M) (N := 17) hx hb htA in_M hown hK hP 3 rfl rfl 7 (by decide) (htA _ k_256) (fun _ h9 => h9) rfl d_M_product_27 ?_
      refine lv_iconst (v := 1) hx hb d_M_product_30 (by decide) ?_
      refine va_lald hx hb hK hP 1 2 rfl rfl in2_1 d_M_product_31 ?_
      refine lv_iload_n hx hb d_M_product_32 rfl (lv_at hl 2 rfl) ?_
      refine lv_lshr (v := (aR (pt (1 : Int32).toNatClampNeg) v20_0)) hx hb d_M_product_33 rfl ?_
      refine lv_lconst (v := 1) hx hb d_M_product_34 (by decide) ?_
      refine lv_land hx hb d_M_product_35 ?_
      refine lv_lconst (v := 1) hx hb d_M_product_36 (by decide) ?_
      refine W.lcmp hx hb d_M_product_37 ?_
      refine cut_join (X := (Nat → Bool)) 0 0 (fun (x : (Nat → Bool)) (H : Heap) (locs : List Loc) (ls : Array Slot) => (if ((aR (pt (1 : Int32).toNatClampNeg) v20_0) &&& 1) = 1 then (g_M_join 130 v20_1 (pt (0 : Int32).toNatClampNeg) v20_0 false) else v20_1) = x ∧ va_P (dC, dI) classes [(bN, .inl (kN, 2, .inl (fun k => b2i (mi k)))), (bQ, .inl (kQ, 2, .inr (.inl pt))), (bP, .inl (kP, 2, .inl pw)), (bM, .inr (3, [.int cd, .int wd, .ref bT, .ref bF, .int al, .ref bN, .ref bP, .ref bQ, .ref bR, .int 130, .int ((g_M_unitOf pw 0) + (g_M_unitOf pw 1)), .int (b2i false), .int tl, .int (b2i sp), .int tpo, .long fro, .int (b2i ly)])), (bR, .inl (kR, 33000, .inl (fun k => b2i (x k))))] H ∧ va_D A [(bN, .inl (kN, 2, .inl (fun k => b2i (mi k)))), (bQ, .inl (kQ, 2, .inr (.inl pt))), (bP, .inl (kP, 2, .inl pw)), (bM, .inr (3, [.int cd, .int wd, .ref bT, .ref bF, .int al, .ref bN, .ref bP, .ref bQ, .ref bR, .int 130, .int ((g_M_unitOf pw 0) + (g_M_unitOf pw 1)), .int (b2i false), .int tl, .int (b2i sp), .int tpo, .long fro, .int (b2i ly)])), (bR, .inl (kR, 33000, .inl (fun k => b2i (x k))))] ∧ va_S A s.heap H locs ∧ lv_has ls 3 [(0, .ref bM), (1, .int (b2i bs)), (2, .int v20_0)]) (fun x ls => F0 m 53 ls []) ?_ (fun J53 => ?_)
      · skip
        rintro j53_0 H locs ls ⟨ej53_0, hP, hD, hS, hl⟩
        have ej53_0 : (if ((aR (pt (1 : Int32).toNatClampNeg) v20_0) &&& 1) = 1 then (g_M_join 130 v20_1 (pt (0 : Int32).toNatClampNeg) v20_0 false) else v20_1) = j53_0 := ej53_0
        have hP : va_P (dC, dI) classes [(bN, .inl (kN, 2, .inl (fun k => b2i (mi k)))), (bQ, .inl (kQ, 2, .inr (.inl pt))), (bP, .inl (kP, 2, .inl pw)), (bM, .inr (3, [.int cd, .int wd, .ref bT, .ref bF, .int al, .ref bN, .ref bP, .ref bQ, .ref bR, .int 130, .int ((g_M_unitOf pw 0) + (g_M_unitOf pw 1)), .int (b2i false), .int tl, .int (b2i sp), .int tpo, .long fro, .int (b2i ly)])), (bR, .inl (kR, 33000, .inl (fun k => b2i (j53_0 k))))] H := hP
        have hD : va_D A [(bN, .inl (kN, 2, .inl (fun k => b2i (mi k)))), (bQ, .inl (kQ, 2, .inr (.inl pt))), (bP, .inl (kP, 2, .inl pw)), (bM, .inr (3, [.int cd, .int wd, .ref bT, .ref bF, .int al, .ref bN, .ref bP, .ref bQ, .ref bR, .int 130, .int ((g_M_unitOf pw 0) + (g_M_unitOf pw 1)), .int (b2i false), .int tl, .int (b2i sp), .int tpo, .long fro, .int (b2i ly)])), (bR, .inl (kR, 33000, .inl (fun k => b2i (j53_0 k))))] := hD
        have hl : lv_has ls 3 [(0, .ref bM), (1, .int (b2i bs)), (2, .int v20_0)] := hl
        refine lv_iinc (v := (v20_0 + 1)) (lv' := [(2, .int (v20_0 + 1)), (0, .ref bM), (1, .int (b2i bs))]) hx hb d_M_product_53 hl (k := 2) rfl rfl (by decide) rfl (fun ls hl => ?_)
        refine lv_goto (tgt := 20) hx hb d_M_product_56 (by decide) ?_
        exact hbk ((v20_0 + 1), j53_0) (by clear hP hD hl hS; subst ej53_0; unfold nx_M_product_20; (try dsimp only); rw [if_neg c_23]) H locs ls ⟨(inc64 hinv c_23), hP.sub [0, 1, 2, 3, 4] rfl, hD.sub [0, 1, 2, 3, 4] (by decide) rfl, hS, lv_sub hl [1, 2, 0] rfl⟩
      · skip
        refine lv_if_ne (tgt := 53) hx hb d_M_product_38 (by decide) (fun c_38 => ?_) (fun c_38 => ?_)
        · skip
          have c_38 : ¬ ((aR (pt (1 : Int32).toNatClampNeg) v20_0) &&& 1) = 1 := fun h9 => c_38 ((lg_cmp_eq _ _).mpr h9)
          exact J53 (v20_1) H locs ls ⟨by clear hP hD hl hS; (try dsimp only); rw [if_neg c_38], hP.sub [0, 1, 2, 3, 4] rfl, hD.sub [0, 1, 2, 3, 4] (by decide) rfl, hS, lv_sub hl [0, 1, 2] rfl⟩
        · skip
          have c_38 : ((aR (pt (1 : Int32).toNatClampNeg) v20_0) &&& 1) = 1 := (lg_cmp_eq _ _).mp c_38
          refine lv_aload_n hx hb d_M_product_41 rfl (lv_at hl 0 rfl) ?_
          refine lv_aload_n hx hb d_M_product_42 rfl (lv_at hl 0 rfl) ?_
          refine va_get (D := (dC, dI)) (ci := 3) (v := .ref bQ) (C := R_M) (T := F_M) (N := 17) hx hb htA in_M hown hK hP 3 rfl rfl 7 (by decide) (htA _ k_256) (fun _ h9 => h9) rfl d_M_product_43 ?_
          refine lv_iconst (v := 0) hx hb d_M_product_46 (by decide) ?_
          refine va_lald hx hb hK hP 1 2 rfl rfl in2_0 d_M_product_47 ?_
          refine lv_iload_n hx hb d_M_product_48 rfl (lv_at hl 2 rfl) ?_
          refine lv_iconst (v := 0) hx hb d_M_product_49 (by decide) ?_
          have hPc := hP.sub (ws' := [(bM, .inr (3, [.int cd, .int wd, .ref bT, .ref bF, .int al, .ref bN, .ref bP, .ref bQ, .ref bR, .int 130, .int ((g_M_unitOf pw 0) + (g_M_unitOf pw 1)), .int (b2i false), .int tl, .int (b2i sp), .int tpo, .long fro, .int (b2i ly)])), (bR, .inl (kR, 33000, .inl (fun k => b2i (v20_1 k))))]) [3, 4] rfl
          have hDc := hD.sub (ws' := [(bM, .inr (3, [.int cd, .int wd, .ref bT, .ref bF, .int al, .ref bN, .ref bP, .ref bQ, .ref bR, .int 130, .int ((g_M_unitOf pw 0) + (g_M_unitOf pw 1)), .int (b2i false), .int tl, .int (b2i sp), .int tpo, .long fro, .int (b2i ly)])), (bR, .inl (kR, 33000, .inl (fun k => b2i (v20_1 k))))]) [3, 4] (by decide) rfl
          have hKc := hK.sub (tys' := [(kR, .boolean)]) [3] rfl
          have hFc := va_free (wc := [(bM, .inr (3, [.int cd, .int wd, .ref bT, .ref bF, .int al, .ref bN, .ref bP, .ref bQ, .ref bR, .int 130, .int ((g_M_unitOf pw 0) + (g_M_unitOf pw 1)), .int (b2i false), .int tl, .int (b2i sp), .int tpo, .long fro, .int (b2i ly)])), (bR, .inl (kR, 33000, .inl (fun k => b2i (v20_1 k))))]) hD hS hA [3, 4] rfl
          refine cc_v (va_runV (As := [.long (pt (0 : Int32).toNatClampNeg), .int v20_0, .int (b2i false)]) (rest := []) ⟨hx, hb, hml, hown, htA⟩ (c_M_join l dC dI kR bM bR bT bF bN bP bQ H.size cd wd al 130 ((g_M_unitOf pw 0) + (g_M_unitOf pw 1)) false tl sp tpo fro ly v20_1 (pt (0 : Int32).toNatClampNeg) v20_0 false okz_130 hinv) (cwV 3 htA (gi_V k_319 k_320 k_321 k_263 (gi_code k_307)) rfl rfl rfl (by decide +kernel) ⟨Nat.le_of_ble_eq_true rfl, Nat.le_of_ble_eq_true rfl⟩) (pre_V hnw hPc hKc hDc (ci := 3) (q0 := 0) rfl rfl) rfl rfl hl.1 rfl (lv_room (Nat.le_of_ble_eq_true rfl)) d_M_product_50 ⟨Nat.le_of_ble_eq_true rfl, Nat.le_of_ble_eq_true rfl⟩) hS hFc hP hD [3, 4] [0, 1, 2] (wr := [(bN, .inl (kN, 2, .inl (fun k => b2i (mi k)))), (bQ, .inl (kQ, 2, .inr (.inl pt))), (bP, .inl (kP, 2, .inl pw))]) rfl rfl (by decide) (by decide) (fun H locs hP hD hS => ?_)
          have hP : va_P (dC, dI) classes [(bN, .inl (kN, 2, .inl (fun k => b2i (mi k)))), (bQ, .inl (kQ, 2, .inr (.inl pt))), (bP, .inl (kP, 2, .inl pw)), (bM, .inr (3, [.int cd, .int wd, .ref bT, .ref bF, .int al, .ref bN, .ref bP, .ref bQ, .ref bR, .int 130, .int ((g_M_unitOf pw 0) + (g_M_unitOf pw 1)), .int (b2i false), .int tl, .int (b2i sp), .int tpo, .long fro, .int (b2i ly)])), (bR, .inl (kR, 33000, .inl (fun k => b2i ((g_M_join 130 v20_1 (pt (0 : Int32).toNatClampNeg) v20_0 false) k))))] H := hP
          have hD : va_D A [(bN, .inl (kN, 2, .inl (fun k => b2i (mi k)))), (bQ, .inl (kQ, 2, .inr (.inl pt))), (bP, .inl (kP, 2, .inl pw)), (bM, .inr (3, [.int cd, .int wd, .ref bT, .ref bF, .int al, .ref bN, .ref bP, .ref bQ, .ref bR, .int 130, .int ((g_M_unitOf pw 0) + (g_M_unitOf pw 1)), .int (b2i false), .int tl, .int (b2i sp), .int tpo, .long fro, .int (b2i ly)])), (bR, .inl (kR, 33000, .inl (fun k => b2i ((g_M_join 130 v20_1 (pt (0 : Int32).toNatClampNeg) v20_0 false) k))))] := hD
          exact J53 ((g_M_join 130 v20_1 (pt (0 : Int32).toNatClampNeg) v20_0 false)) H locs ls ⟨by clear hP hD hl hS; (try dsimp only); rw [if_pos c_38], hP.sub [0, 1, 2, 3, 4] rfl, hD.sub [0, 1, 2, 3, 4] (by decide) rfl, hS, lv_sub hl [0, 1, 2] rfl⟩
  · skip
    rintro ⟨v20_0, v20_1⟩ H locs ls ev ⟨hinv, hP, hD, hS, hl⟩
    have hinv : 0 ≤ v20_0.toInt := hinv
    have ev20_0 : (lrun (nx_M_product_20 pt) 64 (0, (g_M_empty rb 130))).1 = v20_0 := by rw [← ev]
    have ev20_1 : (lrun (nx_M_product_20 pt) 64 (0, (g_M_empty rb 130))).2 = v20_1 := by rw [← ev]
    clear ev
    have hP : va_P (dC, dI) classes [(bN, .inl (kN, 2, .inl (fun k => b2i (mi k)))), (bQ, .inl (kQ, 2, .inr (.inl pt))), (bP, .inl (kP, 2, .inl pw)), (bM, .inr (3, [.int cd, .int wd, .ref bT, .ref bF, .int al, .ref bN, .ref bP, .ref bQ, .ref bR, .int 130, .int ((g_M_unitOf pw 0) + (g_M_unitOf pw 1)), .int (b2i false), .int tl, .int (b2i sp), .int tpo, .long fro, .int (b2i ly)])), (bR, .inl (kR, 33000, .inl (fun k => b2i (v20_1 k))))] H := hP
    have hD : va_D A [(bN, .inl (kN, 2, .inl (fun k => b2i (mi k)))), (bQ, .inl (kQ, 2, .inr (.inl pt))), (bP, .inl (kP, 2, .inl pw)), (bM, .inr (3, [.int cd, .int wd, .ref bT, .ref bF, .int al, .ref bN, .ref bP, .ref bQ, .ref bR, .int 130, .int ((g_M_unitOf pw 0) + (g_M_unitOf pw 1)), .int (b2i false), .int tl, .int (b2i sp), .int tpo, .long fro, .int (b2i ly)])), (bR, .inl (kR, 33000, .inl (fun k => b2i (v20_1 k))))] := hD
    have hl : lv_has ls 3 [(0, .ref bM), (1, .int (b2i bs)), (2, .int v20_0)] := hl
    refine lv_aload_n hx hb d_M_product_59 rfl (lv_at hl 0 rfl) ?_
    have hPc := hP.sub (ws' := [(bM, .inr (3, [.int cd, .int wd, .ref bT, .ref bF, .int al, .ref bN, .ref bP, .ref bQ, .ref bR, .int 130, .int ((g_M_unitOf pw 0) + (g_M_unitOf pw 1)), .int (b2i false), .int tl, .int (b2i sp), .int tpo, .long fro, .int (b2i ly)])), (bR, .inl (kR, 33000, .inl (fun k => b2i (v20_1 k))))]) [3, 4] rfl
    have hDc := hD.sub (ws' := [(bM, .inr (3, [.int cd, .int wd, .ref bT, .ref bF, .int al, .ref bN, .ref bP, .ref bQ, .ref bR, .int 130, .int ((g_M_unitOf pw 0) + (g_M_unitOf pw 1)), .int (b2i false), .int tl, .int (b2i sp), .int tpo, .long fro, .int (b2i ly)])), (bR, .inl (kR, 33000, .inl (fun k => b2i (v20_1 k))))]) [3, 4] (by decide) rfl
    have hKc := hK.sub (tys' := [(kR, .boolean)]) [3] rfl
    have hFc := va_free (wc := [(bM, .inr (3, [.int cd, .int wd, .ref bT, .ref bF, .int al, .ref bN, .ref bP, .ref bQ, .ref bR, .int 130, .int ((g_M_unitOf pw 0) + (g_M_unitOf pw 1)), .int (b2i false), .int tl, .int (b2i sp), .int tpo, .long fro, .int (b2i ly)])), (bR, .inl (kR, 33000, .inl (fun k => b2i (v20_1 k))))]) hD hS hA [3, 4] rfl
    refine cc_i (va_runV (As := []) (rest := []) ⟨hx, hb, hml, hown, htA⟩ (c_M_highest l dC dI kR bM bR bT bF bN bP bQ H.size cd wd al 130 ((g_M_unitOf pw 0) + (g_M_unitOf pw 1)) false tl sp tpo fro ly v20_1 okz_130) (cwV 0 htA (gi_V k_292 k_293 k_294 k_263 (gi_code k_274)) rfl rfl rfl (by decide +kernel) ⟨Nat.le_of_ble_eq_true rfl, Nat.le_of_ble_eq_true rfl⟩) (pre_V hnw hPc hKc hDc (ci := 3) (q0 := 0) rfl rfl) rfl rfl hl.1 rfl (lv_room (Nat.le_of_ble_eq_true rfl)) d_M_product_60 ⟨Nat.le_of_ble_eq_true rfl, Nat.le_of_ble_eq_true rfl⟩) hS hFc hP hD [3, 4] [0, 1, 2] (wr := [(bN, .inl (kN, 2, .inl (fun k => b2i (mi k)))), (bQ, .inl (kQ, 2, .inr (.inl pt))), (bP, .inl (kP, 2, .inl pw))]) rfl rfl (by decide) (by decide) (fun H locs hP hD hS => ?_)
    have hP : va_P (dC, dI) classes [(bN, .inl (kN, 2, .inl (fun k => b2i (mi k)))), (bQ, .inl (kQ, 2, .inr (.inl pt))), (bP, .inl (kP, 2, .inl pw)), (bM, .inr (3, [.int cd, .int wd, .ref bT, .ref bF, .int al, .ref bN, .ref bP, .ref bQ, .ref bR, .int 130, .int ((g_M_unitOf pw 0) + (g_M_unitOf pw 1)), .int (b2i false), .int tl, .int (b2i sp), .int tpo, .long fro, .int (b2i ly)])), (bR, .inl (kR, 33000, .inl (fun k => b2i (v20_1 k))))] H := hP
    have hD : va_D A [(bN, .inl (kN, 2, .inl (fun k => b2i (mi k)))), (bQ, .inl (kQ, 2, .inr (.inl pt))), (bP, .inl (kP, 2, .inl pw)), (bM, .inr (3, [.int cd, .int wd, .ref bT, .ref bF, .int al, .ref bN, .ref bP, .ref bQ, .ref bR, .int 130, .int ((g_M_unitOf pw 0) + (g_M_unitOf pw 1)), .int (b2i false), .int tl, .int (b2i sp), .int tpo, .long fro, .int (b2i ly)])), (bR, .inl (kR, 33000, .inl (fun k => b2i (v20_1 k))))] := hD
    refine lv_if_lt (tgt := 74) hx hb d_M_product_63 (by decide) (fun c_63 => ?_) (fun c_63 => ?_)
    · skip
      refine lv_aload_n hx hb d_M_product_74 rfl (lv_at hl 0 rfl) ?_
      refine lv_iload_n hx hb d_M_product_75 rfl (lv_at hl 1 rfl) ?_
      refine lv_iconst (v := 0) hx hb d_M_product_76 (by decide) ?_
      refine lv_lconst (v := 0) hx hb d_M_product_77 (by decide) ?_
      have hPc := hP.sub (ws' := [(bM, .inr (3, [.int cd, .int wd, .ref bT, .ref bF, .int al, .ref bN, .ref bP, .ref bQ, .ref bR, .int 130, .int ((g_M_unitOf pw 0) + (g_M_unitOf pw 1)), .int (b2i false), .int tl, .int (b2i sp), .int tpo, .long fro, .int (b2i ly)]))]) [3] rfl
      have hDc := hD.sub (ws' := [(bM, .inr (3, [.int cd, .int wd, .ref bT, .ref bF, .int al, .ref bN, .ref bP, .ref bQ, .ref bR, .int 130, .int ((g_M_unitOf pw 0) + (g_M_unitOf pw 1)), .int (b2i false), .int tl, .int (b2i sp), .int tpo, .long fro, .int (b2i ly)]))]) [3] (by decide) rfl
      have hKc := hK.sub (tys' := []) [] rfl
      have hFc := va_free (wc := [(bM, .inr (3, [.int cd, .int wd, .ref bT, .ref bF, .int al, .ref bN, .ref bP, .ref bQ, .ref bR, .int 130, .int ((g_M_unitOf pw 0) + (g_M_unitOf pw 1)), .int (b2i false), .int tl, .int (b2i sp), .int tpo, .long fro, .int (b2i ly)]))]) hD hS hA [3] rfl
      refine cc_v (va_runV (As := [.int (b2i bs), .int 0, .long 0]) (rest := []) ⟨hx, hb, hml, hown, htA⟩ (c_M_answer l dC dI bM bT bF bN bP bQ bR H.size cd wd al 130 ((g_M_unitOf pw 0) + (g_M_unitOf pw 1)) false tl sp tpo fro ly bs 0 0) (cwV 3 htA (gi_V k_288 k_289 k_290 k_263 (gi_code k_254)) rfl rfl rfl (by decide +kernel) ⟨Nat.le_of_ble_eq_true rfl, Nat.le_of_ble_eq_true rfl⟩) (pre_V hnw hPc hKc hDc (ci := 3) (q0 := 0) rfl rfl) rfl rfl hl.1 rfl (lv_room (Nat.le_of_ble_eq_true rfl)) d_M_product_78 ⟨Nat.le_of_ble_eq_true rfl, Nat.le_of_ble_eq_true rfl⟩) hS hFc hP hD [3] [0, 1, 2, 4] (wr := [(bN, .inl (kN, 2, .inl (fun k => b2i (mi k)))), (bQ, .inl (kQ, 2, .inr (.inl pt))), (bP, .inl (kP, 2, .inl pw)), (bR, .inl (kR, 33000, .inl (fun k => b2i (v20_1 k))))]) rfl rfl (by decide) (by decide) (fun H locs hP hD hS => ?_)
      have hP : va_P (dC, dI) classes [(bN, .inl (kN, 2, .inl (fun k => b2i (mi k)))), (bQ, .inl (kQ, 2, .inr (.inl pt))), (bP, .inl (kP, 2, .inl pw)), (bR, .inl (kR, 33000, .inl (fun k => b2i (v20_1 k)))), (bM, .inr (3, [.int cd, .int wd, .ref bT, .ref bF, .int al, .ref bN, .ref bP, .ref bQ, .ref bR, .int 130, .int ((g_M_unitOf pw 0) + (g_M_unitOf pw 1)), .int (b2i false), .int tl, .int (b2i sp), .int (g_M_answer bs 0), .long 0, .int (b2i ly)]))] H := hP
      have hD : va_D A [(bN, .inl (kN, 2, .inl (fun k => b2i (mi k)))), (bQ, .inl (kQ, 2, .inr (.inl pt))), (bP, .inl (kP, 2, .inl pw)), (bR, .inl (kR, 33000, .inl (fun k => b2i (v20_1 k)))), (bM, .inr (3, [.int cd, .int wd, .ref bT, .ref bF, .int al, .ref bN, .ref bP, .ref bQ, .ref bR, .int 130, .int ((g_M_unitOf pw 0) + (g_M_unitOf pw 1)), .int (b2i false), .int tl, .int (b2i sp), .int (g_M_answer bs 0), .long 0, .int (b2i ly)]))] := hD
      have hE : g_M_product wd tl ly pw pt rb bs = (((g_M_unitOf pw 0) + (g_M_unitOf pw 1)), tl, (g_M_answer bs 0), 0, ly, v20_1) := by clear hP hD hl hS; subst ev20_1; subst ev20_0; unfold g_M_product; (try dsimp only); rw [if_pos c_63]
      have hP9 : va_P (dC, dI) classes [(bM, .inr (3, [.int cd, .int wd, .ref bT, .ref bF, .int al, .ref bN, .ref bP, .ref bQ, .ref bR, .int 130, .int ((g_M_product wd tl ly pw pt rb bs).1), .int (b2i false), .int ((g_M_product wd tl ly pw pt rb bs).2.1), .int (b2i sp), .int ((g_M_product wd tl ly pw pt rb bs).2.2.1), .long ((g_M_product wd tl ly pw pt rb bs).2.2.2.1), .int (b2i ((g_M_product wd tl ly pw pt rb bs).2.2.2.2.1))])), (bN, .inl (kN, 2, .inl (fun k => b2i (mi k)))), (bP, .inl (kP, 2, .inl pw)), (bQ, .inl (kQ, 2, .inr (.inl pt))), (bR, .inl (kR, 33000, .inl (fun k => b2i (((g_M_product wd tl ly pw pt rb bs).2.2.2.2.2) k))))] H := by rw [hE]; exact hP.sub [4, 0, 2, 1, 3] rfl
      have hD9 : va_D A [(bM, .inr (3, [.int cd, .int wd, .ref bT, .ref bF, .int al, .ref bN, .ref bP, .ref bQ, .ref bR, .int 130, .int ((g_M_product wd tl ly pw pt rb bs).1), .int (b2i false), .int ((g_M_product wd tl ly pw pt rb bs).2.1), .int (b2i sp), .int ((g_M_product wd tl ly pw pt rb bs).2.2.1), .long ((g_M_product wd tl ly pw pt rb bs).2.2.2.1), .int (b2i ((g_M_product wd tl ly pw pt rb bs).2.2.2.2.1))])), (bN, .inl (kN, 2, .inl (fun k => b2i (mi k)))), (bP, .inl (kP, 2, .inl pw)), (bQ, .inl (kQ, 2, .inr (.inl pt))), (bR, .inl (kR, 33000, .inl (fun k => b2i (((g_M_product wd tl ly pw pt rb bs).2.2.2.2.2) k))))] := by rw [hE]; exact hD.sub [4, 0, 2, 1, 3] (by decide) rfl
      exact W.vret hx hb hr (fun t ht hW => ⟨⟨(), rfl, trivial, by rw [ht]; exact hP9, hD9⟩, hS.F ht⟩) hS.2.2 d_M_product_81
    · skip
      refine lv_aload_n hx hb d_M_product_66 rfl (lv_at hl 0 rfl) ?_
      refine lv_iload_n hx hb d_M_product_67 rfl (lv_at hl 1 rfl) ?_
      have hPc := hP.sub (ws' := [(bM, .inr (3, [.int cd, .int wd, .ref bT, .ref bF, .int al, .ref bN, .ref bP, .ref bQ, .ref bR, .int 130, .int ((g_M_unitOf pw 0) + (g_M_unitOf pw 1)), .int (b2i false), .int tl, .int (b2i sp), .int tpo, .long fro, .int (b2i ly)])), (bR, .inl (kR, 33000, .inl (fun k => b2i (v20_1 k))))]) [3, 4] rfl
      have hDc := hD.sub (ws' := [(bM, .inr (3, [.int cd, .int wd, .ref bT, .ref bF, .int al, .ref bN, .ref bP, .ref bQ, .ref bR, .int 130, .int ((g_M_unitOf pw 0) + (g_M_unitOf pw 1)), .int (b2i false), .int tl, .int (b2i sp), .int tpo, .long fro, .int (b2i ly)])), (bR, .inl (kR, 33000, .inl (fun k => b2i (v20_1 k))))]) [3, 4] (by decide) rfl
      have hKc := hK.sub (tys' := [(kR, .boolean)]) [3] rfl
      have hFc := va_free (wc := [(bM, .inr (3, [.int cd, .int wd, .ref bT, .ref bF, .int al, .ref bN, .ref bP, .ref bQ, .ref bR, .int 130, .int ((g_M_unitOf pw 0) + (g_M_unitOf pw 1)), .int (b2i false), .int tl, .int (b2i sp), .int tpo, .long fro, .int (b2i ly)])), (bR, .inl (kR, 33000, .inl (fun k => b2i (v20_1 k))))]) hD hS hA [3, 4] rfl
      refine cc_v (va_runV (As := [.int (b2i bs)]) (rest := []) ⟨hx, hb, hml, hown, htA⟩ (c_M_make l dC dI kR bM bR bT bF bN bP bQ H.size cd wd al 130 ((g_M_unitOf pw 0) + (g_M_unitOf pw 1)) false tl sp tpo fro ly v20_1 bs okz_130) (cwV 1 htA (gi_V k_325 k_326 k_327 k_263 (gi_code k_305)) rfl rfl rfl (by decide +kernel) ⟨Nat.le_of_ble_eq_true rfl, Nat.le_of_ble_eq_true rfl⟩) (pre_V hnw hPc hKc hDc (ci := 3) (q0 := 0) rfl rfl) rfl rfl hl.1 rfl (lv_room (Nat.le_of_ble_eq_true rfl)) d_M_product_68 ⟨Nat.le_of_ble_eq_true rfl, Nat.le_of_ble_eq_true rfl⟩) hS hFc hP hD [3, 4] [0, 1, 2] (wr := [(bN, .inl (kN, 2, .inl (fun k => b2i (mi k)))), (bQ, .inl (kQ, 2, .inr (.inl pt))), (bP, .inl (kP, 2, .inl pw))]) rfl rfl (by decide) (by decide) (fun H locs hP hD hS => ?_)
      obtain ⟨z68, ez68⟩ : ∃ z, g_M_make wd 130 ((g_M_unitOf pw 0) + (g_M_unitOf pw 1)) false tl v20_1 bs = z := ⟨_, rfl⟩
      rw [ez68] at hP hD
      have hP : va_P (dC, dI) classes [(bN, .inl (kN, 2, .inl (fun k => b2i (mi k)))), (bQ, .inl (kQ, 2, .inr (.inl pt))), (bP, .inl (kP, 2, .inl pw)), (bM, .inr (3, [.int cd, .int wd, .ref bT, .ref bF, .int al, .ref bN, .ref bP, .ref bQ, .ref bR, .int 130, .int ((g_M_unitOf pw 0) + (g_M_unitOf pw 1)), .int (b2i false), .int z68.1, .int (b2i sp), .int z68.2.1, .long z68.2.2.1, .int (b2i z68.2.2.2)])), (bR, .inl (kR, 33000, .inl (fun k => b2i (v20_1 k))))] H := hP
      have hD : va_D A [(bN, .inl (kN, 2, .inl (fun k => b2i (mi k)))), (bQ, .inl (kQ, 2, .inr (.inl pt))), (bP, .inl (kP, 2, .inl pw)), (bM, .inr (3, [.int cd, .int wd, .ref bT, .ref bF, .int al, .ref bN, .ref bP, .ref bQ, .ref bR, .int 130, .int ((g_M_unitOf pw 0) + (g_M_unitOf pw 1)), .int (b2i false), .int z68.1, .int (b2i sp), .int z68.2.1, .long z68.2.2.1, .int (b2i z68.2.2.2)])), (bR, .inl (kR, 33000, .inl (fun k => b2i (v20_1 k))))] := hD
      refine lv_goto (tgt := 81) hx hb d_M_product_71 (by decide) ?_
      have hE : g_M_product wd tl ly pw pt rb bs = (((g_M_unitOf pw 0) + (g_M_unitOf pw 1)), z68.1, z68.2.1, z68.2.2.1, z68.2.2.2, v20_1) := by clear hP hD hl hS; subst ez68; subst ev20_1; subst ev20_0; unfold g_M_product; (try dsimp only); rw [if_neg c_63]
      have hP9 : va_P (dC, dI) classes [(bM, .inr (3, [.int cd, .int wd, .ref bT, .ref bF, .int al, .ref bN, .ref bP, .ref bQ, .ref bR, .int 130, .int ((g_M_product wd tl ly pw pt rb bs).1), .int (b2i false), .int ((g_M_product wd tl ly pw pt rb bs).2.1), .int (b2i sp), .int ((g_M_product wd tl ly pw pt rb bs).2.2.1), .long ((g_M_product wd tl ly pw pt rb bs).2.2.2.1), .int (b2i ((g_M_product wd tl ly pw pt rb bs).2.2.2.2.1))])), (bN, .inl (kN, 2, .inl (fun k => b2i (mi k)))), (bP, .inl (kP, 2, .inl pw)), (bQ, .inl (kQ, 2, .inr (.inl pt))), (bR, .inl (kR, 33000, .inl (fun k => b2i (((g_M_product wd tl ly pw pt rb bs).2.2.2.2.2) k))))] H := by rw [hE]; exact hP.sub [3, 0, 2, 1, 4] rfl
      have hD9 : va_D A [(bM, .inr (3, [.int cd, .int wd, .ref bT, .ref bF, .int al, .ref bN, .ref bP, .ref bQ, .ref bR, .int 130, .int ((g_M_product wd tl ly pw pt rb bs).1), .int (b2i false), .int ((g_M_product wd tl ly pw pt rb bs).2.1), .int (b2i sp), .int ((g_M_product wd tl ly pw pt rb bs).2.2.1), .long ((g_M_product wd tl ly pw pt rb bs).2.2.2.1), .int (b2i ((g_M_product wd tl ly pw pt rb bs).2.2.2.2.1))])), (bN, .inl (kN, 2, .inl (fun k => b2i (mi k)))), (bP, .inl (kP, 2, .inl pw)), (bQ, .inl (kQ, 2, .inr (.inl pt))), (bR, .inl (kR, 33000, .inl (fun k => b2i (((g_M_product wd tl ly pw pt rb bs).2.2.2.2.2) k))))] := by rw [hE]; exact hD.sub [3, 0, 2, 1, 4] (by decide) rfl
      exact W.vret hx hb hr (fun t ht hW => ⟨⟨(), rfl, trivial, by rw [ht]; exact hP9, hD9⟩, hS.F ht⟩) hS.2.2 d_M_product_81
theorem d_M_quotient_0 : decode b_M_quotient 0 = .ok (.aload_n 0, 1) := by decide +kernel
theorem d_M_quotient_1 : decode b_M_quotient 1 = .ok (.iconst 0, 1) := by decide +kernel
theorem d_M_quotient_2 : decode b_M_quotient 2 = .ok (.invokevirtual 126, 3) := by decide +kernel
theorem d_M_quotient_5 : decode b_M_quotient 5 = .ok (.ifCond .eq 11, 3) := by decide +kernel
theorem d_M_quotient_16 : decode b_M_quotient 16 = .ok (.aload_n 0, 1) := by decide +kernel
theorem d_M_quotient_17 : decode b_M_quotient 17 = .ok (.sipush 200, 3) := by decide +kernel
theorem d_M_quotient_20 : decode b_M_quotient 20 = .ok (.aload_n 0, 1) := by decide +kernel
theorem d_M_quotient_21 : decode b_M_quotient 21 = .ok (.iconst 0, 1) := by decide +kernel
theorem d_M_quotient_22 : decode b_M_quotient 22 = .ok (.invokevirtual 106, 3) := by decide +kernel
theorem d_M_quotient_25 : decode b_M_quotient 25 = .ok (.aload_n 0, 1) := by decide +kernel
theorem d_M_quotient_26 : decode b_M_quotient 26 = .ok (.iconst 1, 1) := by decide +kernel
theorem d_M_quotient_27 : decode b_M_quotient 27 = .ok (.invokevirtual 106, 3) := by decide +kernel
theorem d_M_quotient_30 : decode b_M_quotient 30 = .ok (.isub, 1) := by decide +kernel
theorem d_M_quotient_31 : decode b_M_quotient 31 = .ok (.sipush 136, 3) := by decide +kernel
theorem d_M_quotient_34 : decode b_M_quotient 34 = .ok (.isub, 1) := by decide +kernel
theorem d_M_quotient_35 : decode b_M_quotient 35 = .ok (.invokevirtual 114, 3) := by decide +kernel
theorem d_M_quotient_38 : decode b_M_quotient 38 = .ok (.lconst 0, 1) := by decide +kernel
theorem d_M_quotient_39 : decode b_M_quotient 39 = .ok (.lstore_n 2, 1) := by decide +kernel
theorem d_M_quotient_40 : decode b_M_quotient 40 = .ok (.sipush 199, 3) := by decide +kernel
theorem d_M_quotient_43 : decode b_M_quotient 43 = .ok (.istore 4, 2) := by decide +kernel
theorem d_M_quotient_45 : decode b_M_quotient 45 = .ok (.iload 4, 2) := by decide +kernel
theorem d_M_quotient_47 : decode b_M_quotient 47 = .ok (.ifCond .lt 108, 3) := by decide +kernel
theorem d_M_quotient_50 : decode b_M_quotient 50 = .ok (.lload_n 2, 1) := by decide +kernel
theorem d_M_quotient_51 : decode b_M_quotient 51 = .ok (.lconst 0, 1) := by decide +kernel
theorem d_M_quotient_52 : decode b_M_quotient 52 = .ok (.lcmp, 1) := by decide +kernel
theorem d_M_quotient_53 : decode b_M_quotient 53 = .ok (.ifCond .ge 7, 3) := by decide +kernel
theorem d_M_quotient_60 : decode b_M_quotient 60 = .ok (.iconst 0, 1) := by decide +kernel
theorem d_M_quotient_56 : decode b_M_quotient 56 = .ok (.iconst 1, 1) := by decide +kernel
theorem d_M_quotient_57 : decode b_M_quotient 57 = .ok (.goto 4, 3) := by decide +kernel
theorem d_M_quotient_61 : decode b_M_quotient 61 = .ok (.istore 5, 2) := by decide +kernel
theorem d_M_quotient_63 : decode b_M_quotient 63 = .ok (.ldc2_w 72, 3) := by decide +kernel
theorem d_M_quotient_66 : decode b_M_quotient 66 = .ok (.lload_n 2, 1) := by decide +kernel
theorem d_M_quotient_67 : decode b_M_quotient 67 = .ok (.lmul, 1) := by decide +kernel
theorem d_M_quotient_68 : decode b_M_quotient 68 = .ok (.iload 4, 2) := by decide +kernel
theorem d_M_quotient_70 : decode b_M_quotient 70 = .ok (.sipush 136, 3) := by decide +kernel
theorem d_M_quotient_73 : decode b_M_quotient 73 = .ok (.if_icmp .lt 21, 3) := by decide +kernel
theorem d_M_quotient_94 : decode b_M_quotient 94 = .ok (.lconst 0, 1) := by decide +kernel
theorem d_M_quotient_76 : decode b_M_quotient 76 = .ok (.aload_n 0, 1) := by decide +kernel
theorem d_M_quotient_77 : decode b_M_quotient 77 = .ok (.getfield 28, 3) := by decide +kernel
theorem d_M_quotient_80 : decode b_M_quotient 80 = .ok (.iconst 0, 1) := by decide +kernel
theorem d_M_quotient_81 : decode b_M_quotient 81 = .ok (.laload, 1) := by decide +kernel
theorem d_M_quotient_82 : decode b_M_quotient 82 = .ok (.iload 4, 2) := by decide +kernel
theorem d_M_quotient_84 : decode b_M_quotient 84 = .ok (.sipush 136, 3) := by decide +kernel
theorem d_M_quotient_87 : decode b_M_quotient 87 = .ok (.isub, 1) := by decide +kernel
theorem d_M_quotient_88 : decode b_M_quotient 88 = .ok (.lshr, 1) := by decide +kernel
theorem d_M_quotient_89 : decode b_M_quotient 89 = .ok (.lconst 1, 1) := by decide +kernel
theorem d_M_quotient_90 : decode b_M_quotient 90 = .ok (.land, 1) := by decide +kernel
theorem d_M_quotient_91 : decode b_M_quotient 91 = .ok (.goto 4, 3) := by decide +kernel
theorem d_M_quotient_95 : decode b_M_quotient 95 = .ok (.ladd, 1) := by decide +kernel
theorem d_M_quotient_96 : decode b_M_quotient 96 = .ok (.lstore_n 2, 1) := by decide +kernel
theorem d_M_quotient_97 : decode b_M_quotient 97 = .ok (.iload 5, 2) := by decide +kernel
theorem d_M_quotient_99 : decode b_M_quotient 99 = .ok (.ifCond .ne 16, 3) := by decide +kernel
theorem d_M_quotient_115 : decode b_M_quotient 115 = .ok (.iconst 1, 1) := by decide +kernel
theorem d_M_quotient_116 : decode b_M_quotient 116 = .ok (.goto 4, 3) := by decide +kernel
theorem d_M_quotient_102 : decode b_M_quotient 102 = .ok (.lload_n 2, 1) := by decide +kernel
theorem d_M_quotient_103 : decode b_M_quotient 103 = .ok (.aload_n 0, 1) := by decide +kernel
theorem d_M_quotient_104 : decode b_M_quotient 104 = .ok (.getfield 28, 3) := by decide +kernel
theorem d_M_quotient_107 : decode b_M_quotient 107 = .ok (.iconst 1, 1) := by decide +kernel
theorem d_M_quotient_108 : decode b_M_quotient 108 = .ok (.laload, 1) := by decide +kernel
theorem d_M_quotient_109 : decode b_M_quotient 109 = .ok (.invokestatic 129, 3) := by decide +kernel
theorem d_M_quotient_112 : decode b_M_quotient 112 = .ok (.ifCond .ne 7, 3) := by decide +kernel
theorem d_M_quotient_119 : decode b_M_quotient 119 = .ok (.iconst 0, 1) := by decide +kernel
theorem d_M_quotient_120 : decode b_M_quotient 120 = .ok (.istore 6, 2) := by decide +kernel
theorem d_M_quotient_122 : decode b_M_quotient 122 = .ok (.iload 6, 2) := by decide +kernel
theorem d_M_quotient_124 : decode b_M_quotient 124 = .ok (.ifCond .eq 14, 3) := by decide +kernel
theorem d_M_quotient_138 : decode b_M_quotient 138 = .ok (.lload_n 2, 1) := by decide +kernel
theorem d_M_quotient_127 : decode b_M_quotient 127 = .ok (.lload_n 2, 1) := by decide +kernel
theorem d_M_quotient_128 : decode b_M_quotient 128 = .ok (.aload_n 0, 1) := by decide +kernel
theorem d_M_quotient_129 : decode b_M_quotient 129 = .ok (.getfield 28, 3) := by decide +kernel
theorem d_M_quotient_132 : decode b_M_quotient 132 = .ok (.iconst 1, 1) := by decide +kernel
theorem d_M_quotient_133 : decode b_M_quotient 133 = .ok (.laload, 1) := by decide +kernel
theorem d_M_quotient_134 : decode b_M_quotient 134 = .ok (.lsub, 1) := by decide +kernel
theorem d_M_quotient_135 : decode b_M_quotient 135 = .ok (.goto 4, 3) := by decide +kernel
theorem d_M_quotient_139 : decode b_M_quotient 139 = .ok (.lstore_n 2, 1) := by decide +kernel
theorem d_M_quotient_140 : decode b_M_quotient 140 = .ok (.aload_n 0, 1) := by decide +kernel
theorem d_M_quotient_141 : decode b_M_quotient 141 = .ok (.getfield 32, 3) := by decide +kernel
theorem d_M_quotient_144 : decode b_M_quotient 144 = .ok (.iload 4, 2) := by decide +kernel
theorem d_M_quotient_146 : decode b_M_quotient 146 = .ok (.iload 6, 2) := by decide +kernel
theorem d_M_quotient_148 : decode b_M_quotient 148 = .ok (.bastore, 1) := by decide +kernel
theorem d_M_quotient_149 : decode b_M_quotient 149 = .ok (.iinc 4 (-1), 3) := by decide +kernel
theorem d_M_quotient_152 : decode b_M_quotient 152 = .ok (.goto (-107), 3) := by decide +kernel
theorem d_M_quotient_155 : decode b_M_quotient 155 = .ok (.aload_n 0, 1) := by decide +kernel
theorem d_M_quotient_156 : decode b_M_quotient 156 = .ok (.lload_n 2, 1) := by decide +kernel
theorem d_M_quotient_157 : decode b_M_quotient 157 = .ok (.lconst 0, 1) := by decide +kernel
theorem d_M_quotient_158 : decode b_M_quotient 158 = .ok (.lcmp, 1) := by decide +kernel
theorem d_M_quotient_159 : decode b_M_quotient 159 = .ok (.ifCond .eq 7, 3) := by decide +kernel
theorem d_M_quotient_166 : decode b_M_quotient 166 = .ok (.iconst 0, 1) := by decide +kernel
theorem d_M_quotient_162 : decode b_M_quotient 162 = .ok (.iconst 1, 1) := by decide +kernel
theorem d_M_quotient_163 : decode b_M_quotient 163 = .ok (.goto 4, 3) := by decide +kernel
theorem d_M_quotient_167 : decode b_M_quotient 167 = .ok (.putfield 66, 3) := by decide +kernel
theorem d_M_quotient_170 : decode b_M_quotient 170 = .ok (.aload_n 0, 1) := by decide +kernel
theorem d_M_quotient_171 : decode b_M_quotient 171 = .ok (.iload_n 1, 1) := by decide +kernel
theorem d_M_quotient_172 : decode b_M_quotient 172 = .ok (.invokevirtual 122, 3) := by decide +kernel
theorem d_M_quotient_175 : decode b_M_quotient 175 = .ok (.return_, 1) := by decide +kernel
theorem d_M_quotient_8 : decode b_M_quotient 8 = .ok (.aload_n 0, 1) := by decide +kernel
theorem d_M_quotient_9 : decode b_M_quotient 9 = .ok (.iload_n 1, 1) := by decide +kernel
theorem d_M_quotient_10 : decode b_M_quotient 10 = .ok (.iconst 0, 1) := by decide +kernel
theorem d_M_quotient_11 : decode b_M_quotient 11 = .ok (.lconst 0, 1) := by decide +kernel
theorem d_M_quotient_12 : decode b_M_quotient 12 = .ok (.invokevirtual 83, 3) := by decide +kernel
theorem d_M_quotient_15 : decode b_M_quotient 15 = .ok (.return_, 1) := by decide +kernel
set_option maxHeartbeats 4000000 in
set_option maxRecDepth 100000 in
theorem c_M_quotient (l : Launch) (dC : Nat → ClassId) (dI : Nat → Nat → Nat) (kN : ClassId) (kP : ClassId) (kQ : ClassId) (kR : ClassId) (bM : Nat) (bN : Nat) (bP : Nat) (bQ : Nat) (bR : Nat) (bT : Nat) (bF : Nat) (sz : Nat) (cd : Int32) (wd : Int32) (al : Int32) (sz1 : Int32) (un : Int32) (mo : Bool) (tl : Int32) (sp : Bool) (tpo : Int32) (fro : Int64) (ly : Bool) (mi : Nat → Bool) (pw : Nat → Int32) (pt : Nat → Int64) (rb : Nat → Bool) (bs : Bool) : Met l y_M_quotient w_M_quotient ({ frames := 3, cells := 0, slots := 0, locals := 86 }) (cPc (dC, dI) [(kN, .boolean), (kP, .int), (kQ, .long), (kR, .boolean)] [.ref bM, .int (b2i bs)] [(bM, .inr (3, [.int cd, .int wd, .ref bT, .ref bF, .int al, .ref bN, .ref bP, .ref bQ, .ref bR, .int sz1, .int un, .int (b2i mo), .int tl, .int (b2i sp), .int tpo, .long fro, .int (b2i ly)])), (bN, .inl (kN, 2, .inl (fun k => b2i (mi k)))), (bP, .inl (kP, 2, .inl pw)), (bQ, .inl (kQ, 2, .inr (.inl pt))), (bR, .inl (kR, 33000, .inl (fun k => b2i (rb k))))] sz) (va_Qv (fun (_ : Unit) => True) (fun _ t => va_P (dC, dI) classes [(bM, .inr (3, [.int cd, .int wd, .ref bT, .ref bF, .int al, .ref bN, .ref bP, .ref bQ, .ref bR, .int ((g_M_quotient wd sz1 un mo tl ly pw pt rb bs).1), .int ((g_M_quotient wd sz1 un mo tl ly pw pt rb bs).2.1), .int (b2i ((g_M_quotient wd sz1 un mo tl ly pw pt rb bs).2.2.1)), .int ((g_M_quotient wd sz1 un mo tl ly pw pt rb bs).2.2.2.1), .int (b2i sp), .int ((g_M_quotient wd sz1 un mo tl ly pw pt rb bs).2.2.2.2.1), .long ((g_M_quotient wd sz1 un mo tl ly pw pt rb bs).2.2.2.2.2.1), .int (b2i ((g_M_quotient wd sz1 un mo tl ly pw pt rb bs).2.2.2.2.2.2.1))])), (bN, .inl (kN, 2, .inl (fun k => b2i (mi k)))), (bP, .inl (kP, 2, .inl pw)), (bQ, .inl (kQ, 2, .inr (.inl pt))), (bR, .inl (kR, 33000, .inl (fun k => b2i (((g_M_quotient wd sz1 un mo tl ly pw pt rb bs).2.2.2.2.2.2.2) k))))] t.heap ∧ va_D (va_A [(bM, .inr (3, [.int cd, .int wd, .ref bT, .ref bF, .int al, .ref bN, .ref bP, .ref bQ, .ref bR, .int sz1, .int un, .int (b2i mo), .int tl, .int (b2i sp), .int tpo, .long fro, .int (b2i ly)])), (bN, .inl (kN, 2, .inl (fun k => b2i (mi k)))), (bP, .inl (kP, 2, .inl pw)), (bQ, .inl (kQ, 2, .inr (.inl pt))), (bR, .inl (kR, 33000, .inl (fun k => b2i (rb k))))] sz) [(bM, .inr (3, [.int cd, .int wd, .ref bT, .ref bF, .int al, .ref bN, .ref bP, .ref bQ, .ref bR, .int ((g_M_quotient wd sz1 un mo tl ly pw pt rb bs).1), .int ((g_M_quotient wd sz1 un mo tl ly pw pt rb bs).2.1), .int (b2i ((g_M_quotient wd sz1 un mo tl ly pw pt rb bs).2.2.1)), .int ((g_M_quotient wd sz1 un mo tl ly pw pt rb bs).2.2.2.1), .int (b2i sp), .int ((g_M_quotient wd sz1 un mo tl ly pw pt rb bs).2.2.2.2.1), .long ((g_M_quotient wd sz1 un mo tl ly pw pt rb bs).2.2.2.2.2.1), .int (b2i ((g_M_quotient wd sz1 un mo tl ly pw pt rb bs).2.2.2.2.2.2.1))])), (bN, .inl (kN, 2, .inl (fun k => b2i (mi k)))), (bP, .inl (kP, 2, .inl pw)), (bQ, .inl (kQ, 2, .inr (.inl pt))), (bR, .inl (kR, 33000, .inl (fun k => b2i (((g_M_quotient wd sz1 un mo tl ly pw pt rb bs).2.2.2.2.2.2.2) k))))]) (va_A [(bM, .inr (3, [.int cd, .int wd, .ref bT, .ref bF, .int al, .ref bN, .ref bP, .ref bQ, .ref bR, .int sz1, .int un, .int (b2i mo), .int tl, .int (b2i sp), .int tpo, .long fro, .int (b2i ly)])), (bN, .inl (kN, 2, .inl (fun k => b2i (mi k)))), (bP, .inl (kP, 2, .inl pw)), (bQ, .inl (kQ, 2, .inr (.inl pt))), (bR, .inl (kR, 33000, .inl (fun k => b2i (rb k))))] sz)) 0 0 (va_A [(bM, .inr (3, [.int cd, .int wd, .ref bT, .ref bF, .int al, .ref bN, .ref bP, .ref bQ, .ref bR, .int sz1, .int un, .int (b2i mo), .int tl, .int (b2i sp), .int tpo, .long fro, .int (b2i ly)])), (bN, .inl (kN, 2, .inl (fun k => b2i (mi k)))), (bP, .inl (kP, 2, .inl pw)), (bQ, .inl (kQ, 2, .inr (.inl pt))), (bR, .inl (kR, 33000, .inl (fun k => b2i (rb k))))] sz) := by
  refine Met.ofW (cc := b_M_quotient) (maxL := 7) (ret := none) (by decide) rfl ?_
  intro p e s m args below meth c s₁ B hml hv
  obtain ⟨rfl, hsz, hP, hK, hD0, hnw⟩ := hv
  have hx := B.exec
  have hb := B.bytes
  have hr := B.returns
  have hts := atoms_spec (ws := w_M_quotient) B.pre
  have htA : ∀ w ∈ wAll, w.before _ s = true := fun w h => hts w (List.mem_cons_of_mem _ h)
  have hown : s.vm.findClass R_M = some m.cls := findClass_of_methodNamed B.named
  have hlocks := B.notSynchronized
  subst hsz
  have hD := hD0.self (sz := s.heap.size)
  generalize hAe : va_A [(bM, .inr (3, [.int cd, .int wd, .ref bT, .ref bF, .int al, .ref bN, .ref bP, .ref bQ, .ref bR, .int sz1, .int un, .int (b2i mo), .int tl, .int (b2i sp), .int tpo, .long fro, .int (b2i ly)])), (bN, .inl (kN, 2, .inl (fun k => b2i (mi k)))), (bP, .inl (kP, 2, .inl pw)), (bQ, .inl (kQ, 2, .inr (.inl pt))), (bR, .inl (kR, 33000, .inl (fun k => b2i (rb k))))] s.heap.size = A at hD ⊢
  have hA : ∀ q : Nat, s.heap.size ≤ q → A q := fun q h => by rw [← hAe]; exact Or.inr h
  have hS : va_S A s.heap s.heap [] := va_S.rf
  have hP : va_P (dC, dI) classes [(bM, .inr (3, [.int cd, .int wd, .ref bT, .ref bF, .int al, .ref bN, .ref bP, .ref bQ, .ref bR, .int sz1, .int un, .int (b2i mo), .int tl, .int (b2i sp), .int tpo, .long fro, .int (b2i ly)])), (bN, .inl (kN, 2, .inl (fun k => b2i (mi k)))), (bP, .inl (kP, 2, .inl pw)), (bQ, .inl (kQ, 2, .inr (.inl pt))), (bR, .inl (kR, 33000, .inl (fun k => b2i (rb k))))] s.heap := hP
  obtain ⟨H, eH⟩ : ∃ z, z = s.heap := ⟨_, rfl⟩
  rw [← eH] at hP
  have hS : va_S A s.heap H [] := by rw [eH]; exact hS
  rw [← eH]
  generalize ([] : List Loc) = locs at hS ⊢
  have hl := lv_entry ([.ref bM, .int (b2i bs)]) (n := 7) (Nat.le_of_ble_eq_true rfl)
  rw [lg_entry_eq]
  generalize (lg_sl ([.ref bM, .int (b2i bs)]) ++ List.replicate (7 - (lg_sl ([.ref bM, .int (b2i bs)])).length) Slot.unset).toArray = ls at hl ⊢
  have hl : lv_has ls 7 [(0, .ref bM), (1, .int (b2i bs))] := hl
  refine lv_aload_n hx hb d_M_quotient_0 rfl (lv_at hl 0 rfl) ?_
  refine lv_iconst (v := 0) hx hb d_M_quotient_1 (by decide) ?_
  have hPc := hP.sub (ws' := [(bM, .inr (3, [.int cd, .int wd, .ref bT, .ref bF, .int al, .ref bN, .ref bP, .ref bQ, .ref bR, .int sz1, .int un, .int (b2i mo), .int tl, .int (b2i sp), .int tpo, .long fro, .int (b2i ly)])), (bP, .inl (kP, 2, .inl pw)), (bQ, .inl (kQ, 2, .inr (.inl pt)))]) [0, 2, 3] rfl
  have hDc := hD.sub (ws' := [(bM, .inr (3, [.int cd, .int wd, .ref bT, .ref bF, .int al, .ref bN, .ref bP, .ref bQ, .ref bR, .int sz1, .int un, .int (b2i mo), .int tl, .int (b2i sp), .int tpo, .long fro, .int (b2i ly)])), (bP, .inl (kP, 2, .inl pw)), (bQ, .inl (kQ, 2, .inr (.inl pt)))]) [0, 2, 3] (by decide) rfl
  have hKc := hK.sub (tys' := [(kP, .int), (kQ, .long)]) [1, 2] rfl
  have hFc := va_free (wc := [(bM, .inr (3, [.int cd, .int wd, .ref bT, .ref bF, .int al, .ref bN, .ref bP, .ref bQ, .ref bR, .int sz1, .int un, .int (b2i mo), .int tl, .int (b2i sp), .int tpo, .long fro, .int (b2i ly)])), (bP, .inl (kP, 2, .inl pw)), (bQ, .inl (kQ, 2, .inr (.inl pt)))]) hD hS hA [0, 2, 3] rfl
  refine cc_i (va_runV (As := [.int 0]) (rest := []) ⟨hx, hb, hml, hown, htA⟩ (c_M_isNothing l dC dI kP kQ bM bP bQ bT bF bN bR H.size cd wd al sz1 un mo tl sp tpo fro ly pw pt 0 in2_0) (cwV 1 htA (gi_V k_322 k_323 k_324 k_263 (gi_code k_259)) rfl rfl rfl (by decide +kernel) ⟨Nat.le_of_ble_eq_true rfl, Nat.le_of_ble_eq_true rfl⟩) (pre_V hnw hPc hKc hDc (ci := 3) (q0 := 0) rfl rfl) rfl rfl hl.1 rfl (lv_room (Nat.le_of_ble_eq_true rfl)) d_M_quotient_2 ⟨Nat.le_of_ble_eq_true rfl, Nat.le_of_ble_eq_true rfl⟩) hS hFc hP hD [0, 2, 3] [1, 4] (wr := [(bN, .inl (kN, 2, .inl (fun k => b2i (mi k)))), (bR, .inl (kR, 33000, .inl (fun k => b2i (rb k))))]) rfl rfl (by decide) (by decide) (fun H locs hP hD hS => ?_)
  have hP : va_P (dC, dI) classes [(bN, .inl (kN, 2, .inl (fun k => b2i (mi k)))), (bR, .inl (kR, 33000, .inl (fun k => b2i (rb k)))), (bM, .inr (3, [.int cd, .int wd, .ref bT, .ref bF, .int al, .ref bN, .ref bP, .ref bQ, .ref bR, .int sz1, .int un, .int (b2i mo), .int tl, .int (b2i sp), .int tpo, .long fro, .int (b2i ly)])), (bP, .inl (kP, 2, .inl pw)), (bQ, .inl (kQ, 2, .inr (.inl pt)))] H := hP
  have hD : va_D A [(bN, .inl (kN, 2, .inl (fun k => b2i (mi k)))), (bR, .inl (kR, 33000, .inl (fun k => b2i (rb k)))), (bM, .inr (3, [.int cd, .int wd, .ref bT, .ref bF, .int al, .ref bN, .ref bP, .ref bQ, .ref bR, .int sz1, .int un, .int (b2i mo), .int tl, .int (b2i sp), .int tpo, .long fro, .int (b2i ly)])), (bP, .inl (kP, 2, .inl pw)), (bQ, .inl (kQ, 2, .inr (.inl pt)))] := hD
  refine lv_if_eq (tgt := 16) hx hb d_M_quotient_5 (by decide) (fun c_5 => ?_) (fun c_5 => ?_)
  · skip
    have c_5 : ¬ (g_M_isNothing pw pt 0) = true := b2i_z c_5
    refine lv_aload_n hx hb d_M_quotient_16 rfl (lv_at hl 0 rfl) ?_
    refine lv_sipush (v := 200) hx hb d_M_quotient_17 (by decide) ?_
    refine lv_aload_n hx hb d_M_quotient_20 rfl (lv_at hl 0 rfl) ?_
    refine lv_iconst (v := 0) hx hb d_M_quotient_21 (by decide) ?_
    have hPc := hP.sub (ws' := [(bM, .inr (3, [.int cd, .int wd, .ref bT, .ref bF, .int al, .ref bN, .ref bP, .ref bQ, .ref bR, .int sz1, .int un, .int (b2i mo), .int tl, .int (b2i sp), .int tpo, .long fro, .int (b2i ly)])), (bP, .inl (kP, 2, .inl pw))]) [2, 3] rfl
    have hDc := hD.sub (ws' := [(bM, .inr (3, [.int cd, .int wd, .ref bT, .ref bF, .int al, .ref bN, .ref bP, .ref bQ, .ref bR, .int sz1, .int un, .int (b2i mo), .int tl, .int (b2i sp), .int tpo, .long fro, .int (b2i ly)])), (bP, .inl (kP, 2, .inl pw))]) [2, 3] (by decide) rfl
    have hKc := hK.sub (tys' := [(kP, .int)]) [1] rfl
    have hFc := va_free (wc := [(bM, .inr (3, [.int cd, .int wd, .ref bT, .ref bF, .int al, .ref bN, .ref bP, .ref bQ, .ref bR, .int sz1, .int un, .int (b2i mo), .int tl, .int (b2i sp), .int tpo, .long fro, .int (b2i ly)])), (bP, .inl (kP, 2, .inl pw))]) hD hS hA [2, 3] rfl
    refine cc_i (va_runV (As := [.int 0]) (rest := [.int 200, .ref bM]) ⟨hx, hb, hml, hown, htA⟩ (c_M_unitOf l dC dI kP bM bP bT bF bN bQ bR H.size cd wd al sz1 un mo tl sp tpo fro ly pw 0 in2_0) (cwV 1 htA (gi_V k_308 k_309 k_310 k_263 (gi_code k_262)) rfl rfl rfl (by decide +kernel) ⟨Nat.le_of_ble_eq_true rfl, Nat.le_of_ble_eq_true rfl⟩) (pre_V hnw hPc hKc hDc (ci := 3) (q0 := 0) rfl rfl) rfl rfl hl.1 rfl (lv_room (Nat.le_of_ble_eq_true rfl)) d_M_quotient_22 ⟨Nat.le_of_ble_eq_true rfl, Nat.le_of_ble_eq_true rfl⟩) hS hFc hP hD [2, 3] [0, 1, 4] (wr := [(bN, .inl (kN, 2, .inl (fun k => b2i (mi k)))), (bR, .inl (kR, 33000, .inl (fun k => b2i (rb k)))), (bQ, .inl (kQ, 2, .inr (.inl pt)))]) rfl rfl (by decide) (by decide) (fun H locs hP hD hS => ?_)
    have hP : va_P (dC, dI) classes [(bN, .inl (kN, 2, .inl (fun k => b2i (mi k)))), (bR, .inl (kR, 33000, .inl (fun k => b2i (rb k)))), (bQ, .inl (kQ, 2, .inr (.inl pt))), (bM, .inr (3, [.int cd, .int wd, .ref bT, .ref bF, .int al, .ref bN, .ref bP, .ref bQ, .ref bR, .int sz1, .int un, .int (b2i mo), .int tl, .int (b2i sp), .int tpo, .long fro, .int (b2i ly)])), (bP, .inl (kP, 2, .inl pw))] H := hP
    have hD : va_D A [(bN, .inl (kN, 2, .inl (fun k => b2i (mi k)))), (bR, .inl (kR, 33000, .inl (fun k => b2i (rb k)))), (bQ, .inl (kQ, 2, .inr (.inl pt))), (bM, .inr (3, [.int cd, .int wd, .ref bT, .ref bF, .int al, .ref bN, .ref bP, .ref bQ, .ref bR, .int sz1, .int un, .int (b2i mo), .int tl, .int (b2i sp), .int tpo, .long fro, .int (b2i ly)])), (bP, .inl (kP, 2, .inl pw))] := hD
    refine lv_aload_n hx hb d_M_quotient_25 rfl (lv_at hl 0 rfl) ?_
    refine lv_iconst (v := 1) hx hb d_M_quotient_26 (by decide) ?_
    have hPc := hP.sub (ws' := [(bM, .inr (3, [.int cd, .int wd, .ref bT, .ref bF, .int al, .ref bN, .ref bP, .ref bQ, .ref bR, .int sz1, .int un, .int (b2i mo), .int tl, .int (b2i sp), .int tpo, .long fro, .int (b2i ly)])), (bP, .inl (kP, 2, .inl pw))]) [3, 4] rfl
    have hDc := hD.sub (ws' := [(bM, .inr (3, [.int cd, .int wd, .ref bT, .ref bF, .int al, .ref bN, .ref bP, .ref bQ, .ref bR, .int sz1, .int un, .int (b2i mo), .int tl, .int (b2i sp), .int tpo, .long fro, .int (b2i ly)])), (bP, .inl (kP, 2, .inl pw))]) [3, 4] (by decide) rfl
    have hKc := hK.sub (tys' := [(kP, .int)]) [1] rfl
    have hFc := va_free (wc := [(bM, .inr (3, [.int cd, .int wd, .ref bT, .ref bF, .int al, .ref bN, .ref bP, .ref bQ, .ref bR, .int sz1, .int un, .int (b2i mo), .int tl, .int (b2i sp), .int tpo, .long fro, .int (b2i ly)])), (bP, .inl (kP, 2, .inl pw))]) hD hS hA [3, 4] rfl
    refine cc_i (va_runV (As := [.int 1]) (rest := [.int (g_M_unitOf pw 0), .int 200, .ref bM]) ⟨hx, hb, hml, hown, htA⟩ (c_M_unitOf l dC dI kP bM bP bT bF bN bQ bR H.size cd wd al sz1 un mo tl sp tpo fro ly pw 1 in2_1) (cwV 1 htA (gi_V k_308 k_309 k_310 k_263 (gi_code k_262)) rfl rfl rfl (by decide +kernel) ⟨Nat.le_of_ble_eq_true rfl, Nat.le_of_ble_eq_true rfl⟩) (pre_V hnw hPc hKc hDc (ci := 3) (q0 := 0) rfl rfl) rfl rfl hl.1 rfl (lv_room (Nat.le_of_ble_eq_true rfl)) d_M_quotient_27 ⟨Nat.le_of_ble_eq_true rfl, Nat.le_of_ble_eq_true rfl⟩) hS hFc hP hD [3, 4] [0, 1, 2] (wr := [(bN, .inl (kN, 2, .inl (fun k => b2i (mi k)))), (bR, .inl (kR, 33000, .inl (fun k => b2i (rb k)))), (bQ, .inl (kQ, 2, .inr (.inl pt)))]) rfl rfl (by decide) (by decide) (fun H locs hP hD hS => ?_)
    have hP : va_P (dC, dI) classes [(bN, .inl (kN, 2, .inl (fun k => b2i (mi k)))), (bR, .inl (kR, 33000, .inl (fun k => b2i (rb k)))), (bQ, .inl (kQ, 2, .inr (.inl pt))), (bM, .inr (3, [.int cd, .int wd, .ref bT, .ref bF, .int al, .ref bN, .ref bP, .ref bQ, .ref bR, .int sz1, .int un, .int (b2i mo), .int tl, .int (b2i sp), .int tpo, .long fro, .int (b2i ly)])), (bP, .inl (kP, 2, .inl pw))] H := hP
    have hD : va_D A [(bN, .inl (kN, 2, .inl (fun k => b2i (mi k)))), (bR, .inl (kR, 33000, .inl (fun k => b2i (rb k)))), (bQ, .inl (kQ, 2, .inr (.inl pt))), (bM, .inr (3, [.int cd, .int wd, .ref bT, .ref bF, .int al, .ref bN, .ref bP, .ref bQ, .ref bR, .int sz1, .int un, .int (b2i mo), .int tl, .int (b2i sp), .int tpo, .long fro, .int (b2i ly)])), (bP, .inl (kP, 2, .inl pw))] := hD
    refine lv_isub hx hb d_M_quotient_30 ?_
    refine lv_sipush (v := 136) hx hb d_M_quotient_31 (by decide) ?_
    refine lv_isub hx hb d_M_quotient_34 ?_
    have hPc := hP.sub (ws' := [(bM, .inr (3, [.int cd, .int wd, .ref bT, .ref bF, .int al, .ref bN, .ref bP, .ref bQ, .ref bR, .int sz1, .int un, .int (b2i mo), .int tl, .int (b2i sp), .int tpo, .long fro, .int (b2i ly)])), (bR, .inl (kR, 33000, .inl (fun k => b2i (rb k))))]) [3, 1] rfl
    have hDc := hD.sub (ws' := [(bM, .inr (3, [.int cd, .int wd, .ref bT, .ref bF, .int al, .ref bN, .ref bP, .ref bQ, .ref bR, .int sz1, .int un, .int (b2i mo), .int tl, .int (b2i sp), .int tpo, .long fro, .int (b2i ly)])), (bR, .inl (kR, 33000, .inl (fun k => b2i (rb k))))]) [3, 1] (by decide) rfl
    have hKc := hK.sub (tys' := [(kR, .boolean)]) [3] rfl
    have hFc := va_free (wc := [(bM, .inr (3, [.int cd, .int wd, .ref bT, .ref bF, .int al, .ref bN, .ref bP, .ref bQ, .ref bR, .int sz1, .int un, .int (b2i mo), .int tl, .int (b2i sp), .int tpo, .long fro, .int (b2i ly)])), (bR, .inl (kR, 33000, .inl (fun k => b2i (rb k))))]) hD hS hA [3, 1] rfl
    refine cc_v (va_runV (As := [.int 200, .int (((g_M_unitOf pw 0) - (g_M_unitOf pw 1)) - 136)]) (rest := []) ⟨hx, hb, hml, hown, htA⟩ (c_M_empty l dC dI kR bM bR bT bF bN bP bQ H.size cd wd al sz1 un mo tl sp tpo fro ly rb 200 (((g_M_unitOf pw 0) - (g_M_unitOf pw 1)) - 136) okz_200) (cwV 2 htA (gi_V k_316 k_317 k_318 k_263 (gi_code k_306)) rfl rfl rfl (by decide +kernel) ⟨Nat.le_of_ble_eq_true rfl, Nat.le_of_ble_eq_true rfl⟩) (pre_V hnw hPc hKc hDc (ci := 3) (q0 := 0) rfl rfl) rfl rfl hl.1 rfl (lv_room (Nat.le_of_ble_eq_true rfl)) d_M_quotient_35 ⟨Nat.le_of_ble_eq_true rfl, Nat.le_of_ble_eq_true rfl⟩) hS hFc hP hD [3, 1] [0, 2, 4] (wr := [(bN, .inl (kN, 2, .inl (fun k => b2i (mi k)))), (bQ, .inl (kQ, 2, .inr (.inl pt))), (bP, .inl (kP, 2, .inl pw))]) rfl rfl (by decide) (by decide) (fun H locs hP hD hS => ?_)
    have hP : va_P (dC, dI) classes [(bN, .inl (kN, 2, .inl (fun k => b2i (mi k)))), (bQ, .inl (kQ, 2, .inr (.inl pt))), (bP, .inl (kP, 2, .inl pw)), (bM, .inr (3, [.int cd, .int wd, .ref bT, .ref bF, .int al, .ref bN, .ref bP, .ref bQ, .ref bR, .int 200, .int (((g_M_unitOf pw 0) - (g_M_unitOf pw 1)) - 136), .int (b2i false), .int tl, .int (b2i sp), .int tpo, .long fro, .int (b2i ly)])), (bR, .inl (kR, 33000, .inl (fun k => b2i ((g_M_empty rb 200) k))))] H := hP
    have hD : va_D A [(bN, .inl (kN, 2, .inl (fun k => b2i (mi k)))), (bQ, .inl (kQ, 2, .inr (.inl pt))), (bP, .inl (kP, 2, .inl pw)), (bM, .inr (3, [.int cd, .int wd, .ref bT, .ref bF, .int al, .ref bN, .ref bP, .ref bQ, .ref bR, .int 200, .int (((g_M_unitOf pw 0) - (g_M_unitOf pw 1)) - 136), .int (b2i false), .int tl, .int (b2i sp), .int tpo, .long fro, .int (b2i ly)])), (bR, .inl (kR, 33000, .inl (fun k => b2i ((g_M_empty rb 200) k))))] := hD
    refine lv_lconst (v := 0) hx hb d_M_quotient_38 (by decide) ?_
    refine lv_lstore_n (lv' := [(2, .long 0), (0, .ref bM), (1, .int (b2i bs))]) hx hb d_M_quotient_39 rfl hl (by decide) rfl (fun ls hl => ?_)
    refine lv_sipush (v := 199) hx hb d_M_quotient_40 (by decide) ?_
    refine lv_istore (lv' := [(4, .int 199), (2, .long 0), (0, .ref bM), (1, .int (b2i bs))]) hx hb d_M_quotient_43 hl (by decide) rfl (fun ls hl => ?_)
    refine loop_cut (S := Int64 × Int32 × (Nat → Bool)) (nx_M_quotient_45 pt) 200 (0, 199, (g_M_empty rb 200)) (M_quotient_end ..) 0 0 (fun (x : Int64 × Int32 × (Nat → Bool)) (H : Heap) (locs : List Loc) (ls : Array Slot) => x.2.1.toInt ≤ 199 ∧ va_P (dC, dI) classes [(bN, .inl (kN, 2, .inl (fun k => b2i (mi k)))), (bQ, .inl (kQ, 2, .inr (.inl pt))), (bP, .inl (kP, 2, .inl pw)), (bM, .inr (3, [.int cd, .int wd, .ref bT, .ref bF, .int al, .ref bN, .ref bP, .ref bQ, .ref bR, .int 200, .int (((g_M_unitOf pw 0) - (g_M_unitOf pw 1)) - 136), .int (b2i false), .int tl, .int (b2i sp), .int tpo, .long fro, .int (b2i ly)])), (bR, .inl (kR, 33000, .inl (fun k => b2i (x.2.2 k))))] H ∧ va_D A [(bN, .inl (kN, 2, .inl (fun k => b2i (mi k)))), (bQ, .inl (kQ, 2, .inr (.inl pt))), (bP, .inl (kP, 2, .inl pw)), (bM, .inr (3, [.int cd, .int wd, .ref bT, .ref bF, .int al, .ref bN, .ref bP, .ref bQ, .ref bR, .int 200, .int (((g_M_unitOf pw 0) - (g_M_unitOf pw 1)) - 136), .int (b2i false), .int tl, .int (b2i sp), .int tpo, .long fro, .int (b2i ly)])), (bR, .inl (kR, 33000, .inl (fun k => b2i (x.2.2 k))))] ∧ va_S A s.heap H locs ∧ lv_has ls 7 [(0, .ref bM), (1, .int (b2i bs)), (2, .long x.1), (4, .int x.2.1)]) (fun x ls => F0 m 45 ls []) (fun x ls => F0 m 155 ls []) ?_ ?_ H locs ls ⟨le_199, hP.sub [0, 1, 2, 3, 4] rfl, hD.sub [0, 1, 2, 3, 4] (by decide) rfl, hS, lv_sub hl [2, 3, 1, 0] rfl⟩
    · skip
      rintro ⟨v45_0, v45_1, v45_2⟩ hex hbk H locs ls ⟨hinv, hP, hD, hS, hl⟩
      have hinv : v45_1.toInt ≤ 199 := hinv
      have hP : va_P (dC, dI) classes [(bN, .inl (kN, 2, .inl (fun k => b2i (mi k)))), (bQ, .inl (kQ, 2, .inr (.inl pt))), (bP, .inl (kP, 2, .inl pw)), (bM, .inr (3, [.int cd, .int wd, .ref bT, .ref bF, .int al, .ref bN, .ref bP, .ref bQ, .ref bR, .int 200, .int (((g_M_unitOf pw 0) - (g_M_unitOf pw 1)) - 136), .int (b2i false), .int tl, .int (b2i sp), .int tpo, .long fro, .int (b2i ly)])), (bR, .inl (kR, 33000, .inl (fun k => b2i (v45_2 k))))] H := hP
      have hD : va_D A [(bN, .inl (kN, 2, .inl (fun k => b2i (mi k)))), (bQ, .inl (kQ, 2, .inr (.inl pt))), (bP, .inl (kP, 2, .inl pw)), (bM, .inr (3, [.int cd, .int wd, .ref bT, .ref bF, .int al, .ref bN, .ref bP, .ref bQ, .ref bR, .int 200, .int (((g_M_unitOf pw 0) - (g_M_unitOf pw 1)) - 136), .int (b2i false), .int tl, .int (b2i sp), .int tpo, .long fro, .int (b2i ly)])), (bR, .inl (kR, 33000, .inl (fun k => b2i (v45_2 k))))] := hD
      have hl : lv_has ls 7 [(0, .ref bM), (1, .int (b2i bs)), (2, .long v45_0), (4, .int v45_1)] := hl
      refine lv_iload hx hb d_M_quotient_45 (lv_at hl 3 rfl) ?_
      refine lv_if_lt (tgt := 155) hx hb d_M_quotient_47 (by decide) (fun c_47 => ?_) (fun c_47 => ?_)
      · skip
        exact hex (by clear hP hD hl hS; unfold nx_M_quotient_45; (try dsimp only); rw [if_pos c_47]) H locs ls ⟨hinv, hP.sub [0, 1, 2, 3, 4] rfl, hD.sub [0, 1, 2, 3, 4] (by decide) rfl, hS, lv_sub hl [0, 1, 2, 3] rfl⟩
      · skip
        refine lv_lload_n hx hb d_M_quotient_50 rfl (lv_at hl 2 rfl) ?_
        refine lv_lconst (v := 0) hx hb d_M_quotient_51 (by decide) ?_
        refine W.lcmp hx hb d_M_quotient_52 ?_
        refine cut_join (X := Bool) 0 0 (fun (x : Bool) (H : Heap) (locs : List Loc) (ls : Array Slot) => (if 0 ≤ v45_0 then false else true) = x ∧ va_P (dC, dI) classes [(bN, .inl (kN, 2, .inl (fun k => b2i (mi k)))), (bQ, .inl (kQ, 2, .inr (.inl pt))), (bP, .inl (kP, 2, .inl pw)), (bM, .inr (3, [.int cd, .int wd, .ref bT, .ref bF, .int al, .ref bN, .ref bP, .ref bQ, .ref bR, .int 200, .int (((g_M_unitOf pw 0) - (g_M_unitOf pw 1)) - 136), .int (b2i false), .int tl, .int (b2i sp), .int tpo, .long fro, .int (b2i ly)])), (bR, .inl (kR, 33000, .inl (fun k => b2i (v45_2 k))))] H ∧ va_D A [(bN, .inl (kN, 2, .inl (fun k => b2i (mi k)))), (bQ, .inl (kQ, 2, .inr (.inl pt))), (bP, .inl (kP, 2, .inl pw)), (bM, .inr (3, [.int cd, .int wd, .ref bT, .ref bF, .int al, .ref bN, .ref bP, .ref bQ, .ref bR, .int 200, .int (((g_M_unitOf pw 0) - (g_M_unitOf pw 1)) - 136), .int (b2i false), .int tl, .int (b2i sp), .int tpo, .long fro, .int (b2i ly)])), (bR, .inl (kR, 33000, .inl (fun k => b2i (v45_2 k))))] ∧ va_S A s.heap H locs ∧ lv_has ls 7 [(0, .ref bM), (1, .int (b2i bs)), (2, .long v45_0), (4, .int v45_1)]) (fun x ls => F0 m 61 ls [.int (b2i x)]) ?_ (fun J61 => ?_)
        · skip
          rintro j61_0 H locs ls ⟨ej61_0, hP, hD, hS, hl⟩
          have ej61_0 : (if 0 ≤ v45_0 then false else true) = j61_0 := ej61_0
          have hP : va_P (dC, dI) classes [(bN, .inl (kN, 2, .inl (fun k => b2i (mi k)))), (bQ, .inl (kQ, 2, .inr (.inl pt))), (bP, .inl (kP, 2, .inl pw)), (bM, .inr (3, [.int cd, .int wd, .ref bT, .ref bF, .int al, .ref bN, .ref bP, .ref bQ, .ref bR, .int 200, .int (((g_M_unitOf pw 0) - (g_M_unitOf pw 1)) - 136), .int (b2i false), .int tl, .int (b2i sp), .int tpo, .long fro, .int (b2i ly)])), (bR, .inl (kR, 33000, .inl (fun k => b2i (v45_2 k))))] H := hP
          have hD : va_D A [(bN, .inl (kN, 2, .inl (fun k => b2i (mi k)))), (bQ, .inl (kQ, 2, .inr (.inl pt))), (bP, .inl (kP, 2, .inl pw)), (bM, .inr (3, [.int cd, .int wd, .ref bT, .ref bF, .int al, .ref bN, .ref bP, .ref bQ, .ref bR, .int 200, .int (((g_M_unitOf pw 0) - (g_M_unitOf pw 1)) - 136), .int (b2i false), .int tl, .int (b2i sp), .int tpo, .long fro, .int (b2i ly)])), (bR, .inl (kR, 33000, .inl (fun k => b2i (v45_2 k))))] := hD
          have hl : lv_has ls 7 [(0, .ref bM), (1, .int (b2i bs)), (2, .long v45_0), (4, .int v45_1)] := hl
          refine lv_istore (lv' := [(5, .int (b2i j61_0)), (0, .ref bM), (1, .int (b2i bs)), (2, .long v45_0), (4, .int v45_1)]) hx hb d_M_quotient_61 hl (by decide) rfl (fun ls hl => ?_)
          refine lv_ldc2 (v := 2) hx hb hown (htA _ k_278) d_M_quotient_63 ?_
          refine lv_lload_n hx hb d_M_quotient_66 rfl (lv_at hl 3 rfl) ?_
          refine lv_lmul hx hb d_M_quotient_67 ?_
          refine lv_iload hx hb d_M_quotient_68 (lv_at hl 4 rfl) ?_
          refine lv_sipush (v := 136) hx hb d_M_quotient_70 (by decide) ?_
          refine cut_join (X := Int64) 0 0 (fun (x : Int64) (H : Heap) (locs : List Loc) (ls : Array Slot) => (if v45_1 < 136 then 0 else ((aR (pt (0 : Int32).toNatClampNeg) (v45_1 - 136)) &&& 1)) = x ∧ va_P (dC, dI) classes [(bN, .inl (kN, 2, .inl (fun k => b2i (mi k)))), (bQ, .inl (kQ, 2, .inr (.inl pt))), (bP, .inl (kP, 2, .inl pw)), (bM, .inr (3, [.int cd, .int wd, .ref bT, .ref bF, .int al, .ref bN, .ref bP, .ref bQ, .ref bR, .int 200, .int (((g_M_unitOf pw 0) - (g_M_unitOf pw 1)) - 136), .int (b2i false), .int tl, .int (b2i sp), .int tpo, .long fro, .int (b2i ly)])), (bR, .inl (kR, 33000, .inl (fun k => b2i (v45_2 k))))] H ∧ va_D A [(bN, .inl (kN, 2, .inl (fun k => b2i (mi k)))), (bQ, .inl (kQ, 2, .inr (.inl pt))), (bP, .inl (kP, 2, .inl pw)), (bM, .inr (3, [.int cd, .int wd, .ref bT, .ref bF, .int al, .ref bN, .ref bP, .ref bQ, .ref bR, .int 200, .int (((g_M_unitOf pw 0) - (g_M_unitOf pw 1)) - 136), .int (b2i false), .int tl, .int (b2i sp), .int tpo, .long fro, .int (b2i ly)])), (bR, .inl (kR, 33000, .inl (fun k => b2i (v45_2 k))))] ∧ va_S A s.heap H locs ∧ lv_has ls 7 [(0, .ref bM), (1, .int (b2i bs)), (2, .long v45_0), (4, .int v45_1), (5, .int (b2i j61_0))]) (fun x ls => F0 m 95 ls [.long x, .long (2 * v45_0)]) ?_ (fun J95 => ?_)
          · skip
            rintro j95_0 H locs ls ⟨ej95_0, hP, hD, hS, hl⟩
            have ej95_0 : (if v45_1 < 136 then 0 else ((aR (pt (0 : Int32).toNatClampNeg) (v45_1 - 136)) &&& 1)) = j95_0 := ej95_0
            have hP : va_P (dC, dI) classes [(bN, .inl (kN, 2, .inl (fun k => b2i (mi k)))), (bQ, .inl (kQ, 2, .inr (.inl pt))), (bP, .inl (kP, 2, .inl pw)), (bM, .inr (3, [.int cd, .int wd, .ref bT, .ref bF, .int al, .ref bN, .ref bP, .ref bQ, .ref bR, .int 200, .int (((g_M_unitOf pw 0) - (g_M_unitOf pw 1)) - 136), .int (b2i false), .int tl, .int (b2i sp), .int tpo, .long fro, .int (b2i ly)])), (bR, .inl (kR, 33000, .inl (fun k => b2i (v45_2 k))))] H := hP
            have hD : va_D A [(bN, .inl (kN, 2, .inl (fun k => b2i (mi k)))), (bQ, .inl (kQ, 2, .inr (.inl pt))), (bP, .inl (kP, 2, .inl pw)), (bM, .inr (3, [.int cd, .int wd, .ref bT, .ref bF, .int al, .ref bN, .ref bP, .ref bQ, .ref bR, .int 200, .int (((g_M_unitOf pw 0) - (g_M_unitOf pw 1)) - 136), .int (b2i false), .int tl, .int (b2i sp), .int tpo, .long fro, .int (b2i ly)])), (bR, .inl (kR, 33000, .inl (fun k => b2i (v45_2 k))))] := hD
            have hl : lv_has ls 7 [(0, .ref bM), (1, .int (b2i bs)), (2, .long v45_0), (4, .int v45_1), (5, .int (b2i j61_0))] := hl
            refine lv_ladd hx hb d_M_quotient_95 ?_
            refine lv_lstore_n (lv' := [(2, .long ((2 * v45_0) + j95_0)), (0, .ref bM), (1, .int (b2i bs)), (4, .int v45_1), (5, .int (b2i j61_0))]) hx hb d_M_quotient_96 rfl hl (by decide) rfl (fun ls hl => ?_)
            refine lv_iload hx hb d_M_quotient_97 (lv_at hl 4 rfl) ?_
            refine cut_join (X := Bool) 0 0 (fun (x : Bool) (H : Heap) (locs : List Loc) (ls : Array Slot) => (if j61_0 = true then true else if (g_M_below ((2 * v45_0) + j95_0) (pt (1 : Int32).toNatClampNeg)) = true then false else true) = x ∧ va_P (dC, dI) classes [(bN, .inl (kN, 2, .inl (fun k => b2i (mi k)))), (bQ, .inl (kQ, 2, .inr (.inl pt))), (bP, .inl (kP, 2, .inl pw)), (bM, .inr (3, [.int cd, .int wd, .ref bT, .ref bF, .int al, .ref bN, .ref bP, .ref bQ, .ref bR, .int 200, .int (((g_M_unitOf pw 0) - (g_M_unitOf pw 1)) - 136), .int (b2i false), .int tl, .int (b2i sp), .int tpo, .long fro, .int (b2i ly)])), (bR, .inl (kR, 33000, .inl (fun k => b2i (v45_2 k))))] H ∧ va_D A [(bN, .inl (kN, 2, .inl (fun k => b2i (mi k)))), (bQ, .inl (kQ, 2, .inr (.inl pt))), (bP, .inl (kP, 2, .inl pw)), (bM, .inr (3, [.int cd, .int wd, .ref bT, .ref bF, .int al, .ref bN, .ref bP, .ref bQ, .ref bR, .int 200, .int (((g_M_unitOf pw 0) - (g_M_unitOf pw 1)) - 136), .int (b2i false), .int tl, .int (b2i sp), .int tpo, .long fro, .int (b2i ly)])), (bR, .inl (kR, 33000, .inl (fun k => b2i (v45_2 k))))] ∧ va_S A s.heap H locs ∧ lv_has ls 7 [(0, .ref bM), (1, .int (b2i bs)), (2, .long ((2 * v45_0) + j95_0)), (4, .int v45_1), (5, .int (b2i j61_0))]) (fun x ls => F0 m 120 ls [.int (b2i x)]) ?_ (fun J120 => ?_)
            · skip
              rintro j120_0 H locs ls ⟨ej120_0, hP, hD, hS, hl⟩
              have ej120_0 : (if j61_0 = true then true else if (g_M_below ((2 * v45_0) + j95_0) (pt (1 : Int32).toNatClampNeg)) = true then false else true) = j120_0 := ej120_0
              have hP : va_P (dC, dI) classes [(bN, .inl (kN, 2, .inl (fun k => b2i (mi k)))), (bQ, .inl (kQ, 2, .inr (.inl pt))), (bP, .inl (kP, 2, .inl pw)), (bM, .inr (3, [.int cd, .int wd, .ref bT, .ref bF, .int al, .ref bN, .ref bP, .ref bQ, .ref bR, .int 200, .int (((g_M_unitOf pw 0) - (g_M_unitOf pw 1)) - 136), .int (b2i false), .int tl, .int (b2i sp), .int tpo, .long fro, .int (b2i ly)])), (bR, .inl (kR, 33000, .inl (fun k => b2i (v45_2 k))))] H := hP
              have hD : va_D A [(bN, .inl (kN, 2, .inl (fun k => b2i (mi k)))), (bQ, .inl (kQ, 2, .inr (.inl pt))), (bP, .inl (kP, 2, .inl pw)), (bM, .inr (3, [.int cd, .int wd, .ref bT, .ref bF, .int al, .ref bN, .ref bP, .ref bQ, .ref bR, .int 200, .int (((g_M_unitOf pw 0) - (g_M_unitOf pw 1)) - 136), .int (b2i false), .int tl, .int (b2i sp), .int tpo, .long fro, .int (b2i ly)])), (bR, .inl (kR, 33000, .inl (fun k => b2i (v45_2 k))))] := hD
              have hl : lv_has ls 7 [(0, .ref bM), (1, .int (b2i bs)), (2, .long ((2 * v45_0) + j95_0)), (4, .int v45_1), (5, .int (b2i j61_0))] := hl
              refine lv_istore (lv' := [(6, .int (b2i j120_0)), (0, .ref bM), (1, .int (b2i bs)), (2, .long ((2 * v45_0) + j95_0)), (4, .int v45_1), (5, .int (b2i j61_0))]) hx hb d_M_quotient_120 hl (by decide) rfl (fun ls hl => ?_)
              refine lv_iload hx hb d_M_quotient_122 (lv_at hl 0 rfl) ?_
              refine cut_join (X := Int64) 0 0 (fun (x : Int64) (H : Heap) (locs : List Loc) (ls : Array Slot) => (if j120_0 = true then (((2 * v45_0) + j95_0) - (pt (1 : Int32).toNatClampNeg)) else ((2 * v45_0) + j95_0)) = x ∧ va_P (dC, dI) classes [(bN, .inl (kN, 2, .inl (fun k => b2i (mi k)))), (bQ, .inl (kQ, 2, .inr (.inl pt))), (bP, .inl (kP, 2, .inl pw)), (bM, .inr (3, [.int cd, .int wd, .ref bT, .ref bF, .int al, .ref bN, .ref bP, .ref bQ, .ref bR, .int 200, .int (((g_M_unitOf pw 0) - (g_M_unitOf pw 1)) - 136), .int (b2i false), .int tl, .int (b2i sp), .int tpo, .long fro, .int (b2i ly)])), (bR, .inl (kR, 33000, .inl (fun k => b2i (v45_2 k))))] H ∧ va_D A [(bN, .inl (kN, 2, .inl (fun k => b2i (mi k)))), (bQ, .inl (kQ, 2, .inr (.inl pt))), (bP, .inl (kP, 2, .inl pw)), (bM, .inr (3, [.int cd, .int wd, .ref bT, .ref bF, .int al, .ref bN, .ref bP, .ref bQ, .ref bR, .int 200, .int (((g_M_unitOf pw 0) - (g_M_unitOf pw 1)) - 136), .int (b2i false), .int tl, .int (b2i sp), .int tpo, .long fro, .int (b2i ly)])), (bR, .inl (kR, 33000, .inl (fun k => b2i (v45_2 k))))] ∧ va_S A s.heap H locs ∧ lv_has ls 7 [(0, .ref bM), (1, .int (b2i bs)), (2, .long ((2 * v45_0) + j95_0)), (4, .int v45_1), (5, .int (b2i j61_0)), (6, .int (b2i j120_0))]) (fun x ls => F0 m 139 ls [.long x]) ?_ (fun J139 => ?_)
              · skip
                rintro j139_0 H locs ls ⟨ej139_0, hP, hD, hS, hl⟩
                have ej139_0 : (if j120_0 = true then (((2 * v45_0) + j95_0) - (pt (1 : Int32).toNatClampNeg)) else ((2 * v45_0) + j95_0)) = j139_0 := ej139_0
                have hP : va_P (dC, dI) classes [(bN, .inl (kN, 2, .inl (fun k => b2i (mi k)))), (bQ, .inl (kQ, 2, .inr (.inl pt))), (bP, .inl (kP, 2, .inl pw)), (bM, .inr (3, [.int cd, .int wd, .ref bT, .ref bF, .int al, .ref bN, .ref bP, .ref bQ, .ref bR, .int 200, .int (((g_M_unitOf pw 0) - (g_M_unitOf pw 1)) - 136), .int (b2i false), .int tl, .int (b2i sp), .int tpo, .long fro, .int (b2i ly)])), (bR, .inl (kR, 33000, .inl (fun k => b2i (v45_2 k))))] H := hP
                have hD : va_D A [(bN, .inl (kN, 2, .inl (fun k => b2i (mi k)))), (bQ, .inl (kQ, 2, .inr (.inl pt))), (bP, .inl (kP, 2, .inl pw)), (bM, .inr (3, [.int cd, .int wd, .ref bT, .ref bF, .int al, .ref bN, .ref bP, .ref bQ, .ref bR, .int 200, .int (((g_M_unitOf pw 0) - (g_M_unitOf pw 1)) - 136), .int (b2i false), .int tl, .int (b2i sp), .int tpo, .long fro, .int (b2i ly)])), (bR, .inl (kR, 33000, .inl (fun k => b2i (v45_2 k))))] := hD
                have hl : lv_has ls 7 [(0, .ref bM), (1, .int (b2i bs)), (2, .long ((2 * v45_0) + j95_0)), (4, .int v45_1), (5, .int (b2i j61_0)), (6, .int (b2i j120_0))] := hl
                refine lv_lstore_n (lv' := [(2, .long j139_0), (0, .ref bM), (1, .int (b2i bs)), (4, .int v45_1), (5, .int (b2i j61_0)), (6, .int (b2i j120_0))]) hx hb d_M_quotient_139 rfl hl (by decide) rfl (fun ls hl => ?_)
                refine lv_aload_n hx hb d_M_quotient_140 rfl (lv_at hl 1 rfl) ?_
                refine va_get (D := (dC, dI)) (ci := 3) (v := .ref bR) (C := R_M) (T := F_M) (N := 17) hx hb htA in_M hown hK hP 3 rfl rfl 8 (by decide) (htA _ k_272) (fun _ h9 => h9) rfl d_M_quotient_141 ?_
                refine lv_iload hx hb d_M_quotient_144 (lv_at hl 3 rfl) ?_
                refine lv_iload hx hb d_M_quotient_146 (lv_at hl 5 rfl) ?_
                refine va_zast (x := b2i j120_0) hx hb hK hP hD hS 4 3 rfl rfl (q_in c_47 hinv) d_M_quotient_148 (fun H locs hP hD hS => ?_)
                rw [upd_b2i] at hP hD
                have hP : va_P (dC, dI) classes [(bN, .inl (kN, 2, .inl (fun k => b2i (mi k)))), (bQ, .inl (kQ, 2, .inr (.inl pt))), (bP, .inl (kP, 2, .inl pw)), (bM, .inr (3, [.int cd, .int wd, .ref bT, .ref bF, .int al, .ref bN, .ref bP, .ref bQ, .ref bR, .int 200, .int (((g_M_unitOf pw 0) - (g_M_unitOf pw 1)) - 136), .int (b2i false), .int tl, .int (b2i sp), .int tpo, .long fro, .int (b2i ly)])), (bR, .inl (kR, 33000, .inl (fun k => b2i ((updB v45_2 v45_1.toNatClampNeg j120_0) k))))] H := hP
                have hD : va_D A [(bN, .inl (kN, 2, .inl (fun k => b2i (mi k)))), (bQ, .inl (kQ, 2, .inr (.inl pt))), (bP, .inl (kP, 2, .inl pw)), (bM, .inr (3, [.int cd, .int wd, .ref bT, .ref bF, .int al, .ref bN, .ref bP, .ref bQ, .ref bR, .int 200, .int (((g_M_unitOf pw 0) - (g_M_unitOf pw 1)) - 136), .int (b2i false), .int tl, .int (b2i sp), .int tpo, .long fro, .int (b2i ly)])), (bR, .inl (kR, 33000, .inl (fun k => b2i ((updB v45_2 v45_1.toNatClampNeg j120_0) k))))] := hD
                refine lv_iinc (v := (v45_1 + (-1))) (lv' := [(4, .int (v45_1 + (-1))), (2, .long j139_0), (0, .ref bM), (1, .int (b2i bs)), (5, .int (b2i j61_0)), (6, .int (b2i j120_0))]) hx hb d_M_quotient_149 hl (k := 3) rfl rfl (by decide) rfl (fun ls hl => ?_)
                refine lv_goto (tgt := 45) hx hb d_M_quotient_152 (by decide) ?_
                exact hbk (j139_0, (v45_1 + (-1)), (updB v45_2 v45_1.toNatClampNeg j120_0)) (by clear hP hD hl hS; subst ej139_0; subst ej120_0; subst ej95_0; subst ej61_0; unfold nx_M_quotient_45; (try dsimp only); rw [if_neg c_47]) H locs ls ⟨(dec_le c_47 hinv), hP.sub [0, 1, 2, 3, 4] rfl, hD.sub [0, 1, 2, 3, 4] (by decide) rfl, hS, lv_sub hl [2, 3, 1, 0] rfl⟩
              · skip
                refine lv_if_eq (tgt := 138) hx hb d_M_quotient_124 (by decide) (fun c_124 => ?_) (fun c_124 => ?_)
                · skip
                  have c_124 : ¬ j120_0 = true := b2i_z c_124
                  refine lv_lload_n hx hb d_M_quotient_138 rfl (lv_at hl 3 rfl) ?_
                  exact J139 (((2 * v45_0) + j95_0)) H locs ls ⟨by clear hP hD hl hS; (try dsimp only); rw [if_neg c_124], hP.sub [0, 1, 2, 3, 4] rfl, hD.sub [0, 1, 2, 3, 4] (by decide) rfl, hS, lv_sub hl [1, 2, 3, 4, 5, 0] rfl⟩
                · skip
                  have c_124 : j120_0 = true := b2i_nz c_124
                  refine lv_lload_n hx hb d_M_quotient_127 rfl (lv_at hl 3 rfl) ?_
                  refine lv_aload_n hx hb d_M_quotient_128 rfl (lv_at hl 1 rfl) ?_
                  refine va_get (D := (dC, dI)) (ci := 3) (v := .ref bQ) (C := R_M) (T := F_M) (N := 17) hx hb htA in_M hown hK hP 3 rfl rfl 7 (by decide) (htA _ k_256) (fun _ h9 => h9) rfl d_M_quotient_129 ?_
                  refine lv_iconst (v := 1) hx hb d_M_quotient_132 (by decide) ?_
                  refine va_lald hx hb hK hP 1 2 rfl rfl in2_1 d_M_quotient_133 ?_
                  refine lv_lsub hx hb d_M_quotient_134 ?_
                  refine lv_goto (tgt := 139) hx hb d_M_quotient_135 (by decide) ?_
                  exact J139 ((((2 * v45_0) + j95_0) - (pt (1 : Int32).toNatClampNeg))) H locs ls ⟨by clear hP hD hl hS; (try dsimp only); rw [if_pos c_124], hP.sub [0, 1, 2, 3, 4] rfl, hD.sub [0, 1, 2, 3, 4] (by decide) rfl, hS, lv_sub hl [1, 2, 3, 4, 5, 0] rfl⟩
            · skip
              refine lv_if_ne (tgt := 115) hx hb d_M_quotient_99 (by decide) (fun c_99 => ?_) (fun c_99 => ?_)
              · skip
                have c_99 : j61_0 = true := b2i_nz c_99
                refine lv_iconst (v := 1) hx hb d_M_quotient_115 (by decide) ?_
                refine lv_goto (tgt := 120) hx hb d_M_quotient_116 (by decide) ?_
                exact J120 (true) H locs ls ⟨by clear hP hD hl hS; (try dsimp only); rw [if_pos c_99], hP.sub [0, 1, 2, 3, 4] rfl, hD.sub [0, 1, 2, 3, 4] (by decide) rfl, hS, lv_sub hl [1, 2, 0, 3, 4] rfl⟩
              · skip
                have c_99 : ¬ j61_0 = true := b2i_z c_99
                refine lv_lload_n hx hb d_M_quotient_102 rfl (lv_at hl 0 rfl) ?_
                refine lv_aload_n hx hb d_M_quotient_103 rfl (lv_at hl 1 rfl) ?_
                refine va_get (D := (dC, dI)) (ci := 3) (v := .ref bQ) (C := R_M) (T := F_M) (N := 17) hx hb htA in_M hown hK hP 3 rfl rfl 7 (by decide) (htA _ k_256) (fun _ h9 => h9) rfl d_M_quotient_104 ?_
                refine lv_iconst (v := 1) hx hb d_M_quotient_107 (by decide) ?_
                refine va_lald hx hb hK hP 1 2 rfl rfl in2_1 d_M_quotient_108 ?_
                have hPc := hP.sub (ws' := []) [] rfl
                have hDc := hD.sub (ws' := []) [] (by decide) rfl
                have hKc := hK.sub (tys' := []) [] rfl
                have hFc := va_free (wc := []) hD hS hA [] rfl
                refine cc_i (va_runS (As := [.long ((2 * v45_0) + j95_0), .long (pt (1 : Int32).toNatClampNeg)]) (rest := []) ⟨hx, hb, hml, hown, htA⟩ (c_M_below l dC dI H.size ((2 * v45_0) + j95_0) (pt (1 : Int32).toNatClampNeg)) (va_cwS 2 htA (gi_S k_330 k_331 k_263 (gi_code k_238)) rfl rfl rfl (by decide +kernel) ⟨Nat.le_of_ble_eq_true rfl, Nat.le_of_ble_eq_true rfl⟩) (pre_S hnw hPc hKc hDc) rfl rfl hl.1 rfl (lv_room (Nat.le_of_ble_eq_true rfl)) d_M_quotient_109 ⟨Nat.le_of_ble_eq_true rfl, Nat.le_of_ble_eq_true rfl⟩) hS hFc hP hD [] [0, 1, 2, 3, 4] (wr := [(bN, .inl (kN, 2, .inl (fun k => b2i (mi k)))), (bQ, .inl (kQ, 2, .inr (.inl pt))), (bP, .inl (kP, 2, .inl pw)), (bM, .inr (3, [.int cd, .int wd, .ref bT, .ref bF, .int al, .ref bN, .ref bP, .ref bQ, .ref bR, .int 200, .int (((g_M_unitOf pw 0) - (g_M_unitOf pw 1)) - 136), .int (b2i false), .int tl, .int (b2i sp), .int tpo, .long fro, .int (b2i ly)])), (bR, .inl (kR, 33000, .inl (fun k => b2i (v45_2 k))))]) rfl rfl (by decide) (by decide) (fun H locs hP hD hS => ?_)
                have hP : va_P (dC, dI) classes [(bN, .inl (kN, 2, .inl (fun k => b2i (mi k)))), (bQ, .inl (kQ, 2, .inr (.inl pt))), (bP, .inl (kP, 2, .inl pw)), (bM, .inr (3, [.int cd, .int wd, .ref bT, .ref bF, .int al, .ref bN, .ref bP, .ref bQ, .ref bR, .int 200, .int (((g_M_unitOf pw 0) - (g_M_unitOf pw 1)) - 136), .int (b2i false), .int tl, .int (b2i sp), .int tpo, .long fro, .int (b2i ly)])), (bR, .inl (kR, 33000, .inl (fun k => b2i (v45_2 k))))] H := hP
                have hD : va_D A [(bN, .inl (kN, 2, .inl (fun k => b2i (mi k)))), (bQ, .inl (kQ, 2, .inr (.inl pt))), (bP, .inl (kP, 2, .inl pw)), (bM, .inr (3, [.int cd, .int wd, .ref bT, .ref bF, .int al, .ref bN, .ref bP, .ref bQ, .ref bR, .int 200, .int (((g_M_unitOf pw 0) - (g_M_unitOf pw 1)) - 136), .int (b2i false), .int tl, .int (b2i sp), .int tpo, .long fro, .int (b2i ly)])), (bR, .inl (kR, 33000, .inl (fun k => b2i (v45_2 k))))] := hD
                refine lv_if_ne (tgt := 119) hx hb d_M_quotient_112 (by decide) (fun c_112 => ?_) (fun c_112 => ?_)
                · skip
                  have c_112 : (g_M_below ((2 * v45_0) + j95_0) (pt (1 : Int32).toNatClampNeg)) = true := b2i_nz c_112
                  refine lv_iconst (v := 0) hx hb d_M_quotient_119 (by decide) ?_
                  exact J120 (false) H locs ls ⟨by clear hP hD hl hS; (try dsimp only); rw [if_neg c_99, if_pos c_112], hP.sub [0, 1, 2, 3, 4] rfl, hD.sub [0, 1, 2, 3, 4] (by decide) rfl, hS, lv_sub hl [1, 2, 0, 3, 4] rfl⟩
                · skip
                  have c_112 : ¬ (g_M_below ((2 * v45_0) + j95_0) (pt (1 : Int32).toNatClampNeg)) = true := b2i_z c_112
                  refine lv_iconst (v := 1) hx hb d_M_quotient_115 (by decide) ?_
                  refine lv_goto (tgt := 120) hx hb d_M_quotient_116 (by decide) ?_
                  exact J120 (true) H locs ls ⟨by clear hP hD hl hS; (try dsimp only); rw [if_neg c_99, if_neg c_112], hP.sub [0, 1, 2, 3, 4] rfl, hD.sub [0, 1, 2, 3, 4] (by decide) rfl, hS, lv_sub hl [1, 2, 0, 3, 4] rfl⟩
          · skip
            refine lv_icmp_lt (tgt := 94) hx hb d_M_quotient_73 (by decide) (fun c_73 => ?_) (fun c_73 => ?_)
            · skip
              refine lv_lconst (v := 0) hx hb d_M_quotient_94 (by decide) ?_
              exact J95 (0) H locs ls ⟨by clear hP hD hl hS; (try dsimp only); rw [if_pos c_73], hP.sub [0, 1, 2, 3, 4] rfl, hD.sub [0, 1, 2, 3, 4] (by decide) rfl, hS, lv_sub hl [1, 2, 3, 4, 0] rfl⟩
            · skip
              refine lv_aload_n hx hb d_M_quotient_76 rfl (lv_at hl 1 rfl) ?_
              refine va_get (D := (dC, dI)) (ci := 3) (v := .ref bQ) (C := R_M) (T := F_M) (N := 17) hx hb htA in_M hown hK hP 3 rfl rfl 7 (by decide) (htA _ k_256) (fun _ h9 => h9) rfl d_M_quotient_77 ?_
              refine lv_iconst (v := 0) hx hb d_M_quotient_80 (by decide) ?_
              refine va_lald hx hb hK hP 1 2 rfl rfl in2_0 d_M_quotient_81 ?_
              refine lv_iload hx hb d_M_quotient_82 (lv_at hl 4 rfl) ?_
              refine lv_sipush (v := 136) hx hb d_M_quotient_84 (by decide) ?_
              refine lv_isub hx hb d_M_quotient_87 ?_
              refine lv_lshr (v := (aR (pt (0 : Int32).toNatClampNeg) (v45_1 - 136))) hx hb d_M_quotient_88 rfl ?_
              refine lv_lconst (v := 1) hx hb d_M_quotient_89 (by decide) ?_
              refine lv_land hx hb d_M_quotient_90 ?_
              refine lv_goto (tgt := 95) hx hb d_M_quotient_91 (by decide) ?_
              exact J95 (((aR (pt (0 : Int32).toNatClampNeg) (v45_1 - 136)) &&& 1)) H locs ls ⟨by clear hP hD hl hS; (try dsimp only); rw [if_neg c_73], hP.sub [0, 1, 2, 3, 4] rfl, hD.sub [0, 1, 2, 3, 4] (by decide) rfl, hS, lv_sub hl [1, 2, 3, 4, 0] rfl⟩
        · skip
          refine lv_if_ge (tgt := 60) hx hb d_M_quotient_53 (by decide) (fun c_53 => ?_) (fun c_53 => ?_)
          · skip
            have c_53 : 0 ≤ v45_0 := (lg_cmp_ge _ _).mp c_53
            refine lv_iconst (v := 0) hx hb d_M_quotient_60 (by decide) ?_
            exact J61 (false) H locs ls ⟨by clear hP hD hl hS; (try dsimp only); rw [if_pos c_53], hP.sub [0, 1, 2, 3, 4] rfl, hD.sub [0, 1, 2, 3, 4] (by decide) rfl, hS, lv_sub hl [0, 1, 2, 3] rfl⟩
          · skip
            have c_53 : ¬ 0 ≤ v45_0 := fun h9 => c_53 ((lg_cmp_ge _ _).mpr h9)
            refine lv_iconst (v := 1) hx hb d_M_quotient_56 (by decide) ?_
            refine lv_goto (tgt := 61) hx hb d_M_quotient_57 (by decide) ?_
            exact J61 (true) H locs ls ⟨by clear hP hD hl hS; (try dsimp only); rw [if_neg c_53], hP.sub [0, 1, 2, 3, 4] rfl, hD.sub [0, 1, 2, 3, 4] (by decide) rfl, hS, lv_sub hl [0, 1, 2, 3] rfl⟩
    · skip
      rintro ⟨v45_0, v45_1, v45_2⟩ H locs ls ev ⟨hinv, hP, hD, hS, hl⟩
      have hinv : v45_1.toInt ≤ 199 := hinv
      have ev45_0 : (lrun (nx_M_quotient_45 pt) 200 (0, 199, (g_M_empty rb 200))).1 = v45_0 := by rw [← ev]
      have ev45_1 : (lrun (nx_M_quotient_45 pt) 200 (0, 199, (g_M_empty rb 200))).2.1 = v45_1 := by rw [← ev]
      have ev45_2 : (lrun (nx_M_quotient_45 pt) 200 (0, 199, (g_M_empty rb 200))).2.2 = v45_2 := by rw [← ev]
      clear ev
      have hP : va_P (dC, dI) classes [(bN, .inl (kN, 2, .inl (fun k => b2i (mi k)))), (bQ, .inl (kQ, 2, .inr (.inl pt))), (bP, .inl (kP, 2, .inl pw)), (bM, .inr (3, [.int cd, .int wd, .ref bT, .ref bF, .int al, .ref bN, .ref bP, .ref bQ, .ref bR, .int 200, .int (((g_M_unitOf pw 0) - (g_M_unitOf pw 1)) - 136), .int (b2i false), .int tl, .int (b2i sp), .int tpo, .long fro, .int (b2i ly)])), (bR, .inl (kR, 33000, .inl (fun k => b2i (v45_2 k))))] H := hP
      have hD : va_D A [(bN, .inl (kN, 2, .inl (fun k => b2i (mi k)))), (bQ, .inl (kQ, 2, .inr (.inl pt))), (bP, .inl (kP, 2, .inl pw)), (bM, .inr (3, [.int cd, .int wd, .ref bT, .ref bF, .int al, .ref bN, .ref bP, .ref bQ, .ref bR, .int 200, .int (((g_M_unitOf pw 0) - (g_M_unitOf pw 1)) - 136), .int (b2i false), .int tl, .int (b2i sp), .int tpo, .long fro, .int (b2i ly)])), (bR, .inl (kR, 33000, .inl (fun k => b2i (v45_2 k))))] := hD
      have hl : lv_has ls 7 [(0, .ref bM), (1, .int (b2i bs)), (2, .long v45_0), (4, .int v45_1)] := hl
      refine lv_aload_n hx hb d_M_quotient_155 rfl (lv_at hl 0 rfl) ?_
      refine lv_lload_n hx hb d_M_quotient_156 rfl (lv_at hl 2 rfl) ?_
      refine lv_lconst (v := 0) hx hb d_M_quotient_157 (by decide) ?_
      refine W.lcmp hx hb d_M_quotient_158 ?_
      refine cut_join (X := Bool) 0 0 (fun (x : Bool) (H : Heap) (locs : List Loc) (ls : Array Slot) => (if v45_0 = 0 then false else true) = x ∧ va_P (dC, dI) classes [(bN, .inl (kN, 2, .inl (fun k => b2i (mi k)))), (bQ, .inl (kQ, 2, .inr (.inl pt))), (bP, .inl (kP, 2, .inl pw)), (bM, .inr (3, [.int cd, .int wd, .ref bT, .ref bF, .int al, .ref bN, .ref bP, .ref bQ, .ref bR, .int 200, .int (((g_M_unitOf pw 0) - (g_M_unitOf pw 1)) - 136), .int (b2i false), .int tl, .int (b2i sp), .int tpo, .long fro, .int (b2i ly)])), (bR, .inl (kR, 33000, .inl (fun k => b2i (v45_2 k))))] H ∧ va_D A [(bN, .inl (kN, 2, .inl (fun k => b2i (mi k)))), (bQ, .inl (kQ, 2, .inr (.inl pt))), (bP, .inl (kP, 2, .inl pw)), (bM, .inr (3, [.int cd, .int wd, .ref bT, .ref bF, .int al, .ref bN, .ref bP, .ref bQ, .ref bR, .int 200, .int (((g_M_unitOf pw 0) - (g_M_unitOf pw 1)) - 136), .int (b2i false), .int tl, .int (b2i sp), .int tpo, .long fro, .int (b2i ly)])), (bR, .inl (kR, 33000, .inl (fun k => b2i (v45_2 k))))] ∧ va_S A s.heap H locs ∧ lv_has ls 7 [(0, .ref bM), (1, .int (b2i bs)), (2, .long v45_0), (4, .int v45_1)]) (fun x ls => F0 m 167 ls [.int (b2i x), .ref bM]) ?_ (fun J167 => ?_)
      · skip
        rintro j167_0 H locs ls ⟨ej167_0, hP, hD, hS, hl⟩
        have ej167_0 : (if v45_0 = 0 then false else true) = j167_0 := ej167_0
        have hP : va_P (dC, dI) classes [(bN, .inl (kN, 2, .inl (fun k => b2i (mi k)))), (bQ, .inl (kQ, 2, .inr (.inl pt))), (bP, .inl (kP, 2, .inl pw)), (bM, .inr (3, [.int cd, .int wd, .ref bT, .ref bF, .int al, .ref bN, .ref bP, .ref bQ, .ref bR, .int 200, .int (((g_M_unitOf pw 0) - (g_M_unitOf pw 1)) - 136), .int (b2i false), .int tl, .int (b2i sp), .int tpo, .long fro, .int (b2i ly)])), (bR, .inl (kR, 33000, .inl (fun k => b2i (v45_2 k))))] H := hP
        have hD : va_D A [(bN, .inl (kN, 2, .inl (fun k => b2i (mi k)))), (bQ, .inl (kQ, 2, .inr (.inl pt))), (bP, .inl (kP, 2, .inl pw)), (bM, .inr (3, [.int cd, .int wd, .ref bT, .ref bF, .int al, .ref bN, .ref bP, .ref bQ, .ref bR, .int 200, .int (((g_M_unitOf pw 0) - (g_M_unitOf pw 1)) - 136), .int (b2i false), .int tl, .int (b2i sp), .int tpo, .long fro, .int (b2i ly)])), (bR, .inl (kR, 33000, .inl (fun k => b2i (v45_2 k))))] := hD
        have hl : lv_has ls 7 [(0, .ref bM), (1, .int (b2i bs)), (2, .long v45_0), (4, .int v45_1)] := hl
        refine va_put (D := (dC, dI)) (ci := 3) (v := .int (b2i j167_0)) (ty := .boolean) (C := R_M) (T := F_M) (N := 17) hx hb htA in_M t_M t_M_ok n_M hown hK hP hD hS 3 rfl rfl 11 (by decide) (htA _ k_275) (fun _ h9 => h9) rfl (by decide +kernel) (by first | exact nar_b2i _ | rfl) (by first | exact fit_b2i _ | rfl) (Nat.le_of_ble_eq_true rfl) d_M_quotient_167 (fun H locs hP hD hS => ?_)
        have hP : va_P (dC, dI) classes [(bN, .inl (kN, 2, .inl (fun k => b2i (mi k)))), (bQ, .inl (kQ, 2, .inr (.inl pt))), (bP, .inl (kP, 2, .inl pw)), (bM, .inr (3, [.int cd, .int wd, .ref bT, .ref bF, .int al, .ref bN, .ref bP, .ref bQ, .ref bR, .int 200, .int (((g_M_unitOf pw 0) - (g_M_unitOf pw 1)) - 136), .int (b2i j167_0), .int tl, .int (b2i sp), .int tpo, .long fro, .int (b2i ly)])), (bR, .inl (kR, 33000, .inl (fun k => b2i (v45_2 k))))] H := hP
        have hD : va_D A [(bN, .inl (kN, 2, .inl (fun k => b2i (mi k)))), (bQ, .inl (kQ, 2, .inr (.inl pt))), (bP, .inl (kP, 2, .inl pw)), (bM, .inr (3, [.int cd, .int wd, .ref bT, .ref bF, .int al, .ref bN, .ref bP, .ref bQ, .ref bR, .int 200, .int (((g_M_unitOf pw 0) - (g_M_unitOf pw 1)) - 136), .int (b2i j167_0), .int tl, .int (b2i sp), .int tpo, .long fro, .int (b2i ly)])), (bR, .inl (kR, 33000, .inl (fun k => b2i (v45_2 k))))] := hD
        refine lv_aload_n hx hb d_M_quotient_170 rfl (lv_at hl 0 rfl) ?_
        refine lv_iload_n hx hb d_M_quotient_171 rfl (lv_at hl 1 rfl) ?_
        have hPc := hP.sub (ws' := [(bM, .inr (3, [.int cd, .int wd, .ref bT, .ref bF, .int al, .ref bN, .ref bP, .ref bQ, .ref bR, .int 200, .int (((g_M_unitOf pw 0) - (g_M_unitOf pw 1)) - 136), .int (b2i j167_0), .int tl, .int (b2i sp), .int tpo, .long fro, .int (b2i ly)])), (bR, .inl (kR, 33000, .inl (fun k => b2i (v45_2 k))))]) [3, 4] rfl
        have hDc := hD.sub (ws' := [(bM, .inr (3, [.int cd, .int wd, .ref bT, .ref bF, .int al, .ref bN, .ref bP, .ref bQ, .ref bR, .int 200, .int (((g_M_unitOf pw 0) - (g_M_unitOf pw 1)) - 136), .int (b2i j167_0), .int tl, .int (b2i sp), .int tpo, .long fro, .int (b2i ly)])), (bR, .inl (kR, 33000, .inl (fun k => b2i (v45_2 k))))]) [3, 4] (by decide) rfl
        have hKc := hK.sub (tys' := [(kR, .boolean)]) [3] rfl
        have hFc := va_free (wc := [(bM, .inr (3, [.int cd, .int wd, .ref bT, .ref bF, .int al, .ref bN, .ref bP, .ref bQ, .ref bR, .int 200, .int (((g_M_unitOf pw 0) - (g_M_unitOf pw 1)) - 136), .int (b2i j167_0), .int tl, .int (b2i sp), .int tpo, .long fro, .int (b2i ly)])), (bR, .inl (kR, 33000, .inl (fun k => b2i (v45_2 k))))]) hD hS hA [3, 4] rfl
        refine cc_v (va_runV (As := [.int (b2i bs)]) (rest := []) ⟨hx, hb, hml, hown, htA⟩ (c_M_make l dC dI kR bM bR bT bF bN bP bQ H.size cd wd al 200 (((g_M_unitOf pw 0) - (g_M_unitOf pw 1)) - 136) j167_0 tl sp tpo fro ly v45_2 bs okz_200) (cwV 1 htA (gi_V k_325 k_326 k_327 k_263 (gi_code k_305)) rfl rfl rfl (by decide +kernel) ⟨Nat.le_of_ble_eq_true rfl, Nat.le_of_ble_eq_true rfl⟩) (pre_V hnw hPc hKc hDc (ci := 3) (q0 := 0) rfl rfl) rfl rfl hl.1 rfl (lv_room (Nat.le_of_ble_eq_true rfl)) d_M_quotient_172 ⟨Nat.le_of_ble_eq_true rfl, Nat.le_of_ble_eq_true rfl⟩) hS hFc hP hD [3, 4] [0, 1, 2] (wr := [(bN, .inl (kN, 2, .inl (fun k => b2i (mi k)))), (bQ, .inl (kQ, 2, .inr (.inl pt))), (bP, .inl (kP, 2, .inl pw))]) rfl rfl (by decide) (by decide) (fun H locs hP hD hS => ?_)
        obtain ⟨z172, ez172⟩ : ∃ z, g_M_make wd 200 (((g_M_unitOf pw 0) - (g_M_unitOf pw 1)) - 136) j167_0 tl v45_2 bs = z := ⟨_, rfl⟩
        rw [ez172] at hP hD
        have hP : va_P (dC, dI) classes [(bN, .inl (kN, 2, .inl (fun k => b2i (mi k)))), (bQ, .inl (kQ, 2, .inr (.inl pt))), (bP, .inl (kP, 2, .inl pw)), (bM, .inr (3, [.int cd, .int wd, .ref bT, .ref bF, .int al, .ref bN, .ref bP, .ref bQ, .ref bR, .int 200, .int (((g_M_unitOf pw 0) - (g_M_unitOf pw 1)) - 136), .int (b2i j167_0), .int z172.1, .int (b2i sp), .int z172.2.1, .long z172.2.2.1, .int (b2i z172.2.2.2)])), (bR, .inl (kR, 33000, .inl (fun k => b2i (v45_2 k))))] H := hP
        have hD : va_D A [(bN, .inl (kN, 2, .inl (fun k => b2i (mi k)))), (bQ, .inl (kQ, 2, .inr (.inl pt))), (bP, .inl (kP, 2, .inl pw)), (bM, .inr (3, [.int cd, .int wd, .ref bT, .ref bF, .int al, .ref bN, .ref bP, .ref bQ, .ref bR, .int 200, .int (((g_M_unitOf pw 0) - (g_M_unitOf pw 1)) - 136), .int (b2i j167_0), .int z172.1, .int (b2i sp), .int z172.2.1, .long z172.2.2.1, .int (b2i z172.2.2.2)])), (bR, .inl (kR, 33000, .inl (fun k => b2i (v45_2 k))))] := hD
        have hE : g_M_quotient wd sz1 un mo tl ly pw pt rb bs = (200, (((g_M_unitOf pw 0) - (g_M_unitOf pw 1)) - 136), j167_0, z172.1, z172.2.1, z172.2.2.1, z172.2.2.2, v45_2) := by clear hP hD hl hS; subst ez172; subst ej167_0; subst ev45_2; subst ev45_1; subst ev45_0; unfold g_M_quotient; (try dsimp only); rw [if_neg c_5]
        have hP9 : va_P (dC, dI) classes [(bM, .inr (3, [.int cd, .int wd, .ref bT, .ref bF, .int al, .ref bN, .ref bP, .ref bQ, .ref bR, .int ((g_M_quotient wd sz1 un mo tl ly pw pt rb bs).1), .int ((g_M_quotient wd sz1 un mo tl ly pw pt rb bs).2.1), .int (b2i ((g_M_quotient wd sz1 un mo tl ly pw pt rb bs).2.2.1)), .int ((g_M_quotient wd sz1 un mo tl ly pw pt rb bs).2.2.2.1), .int (b2i sp), .int ((g_M_quotient wd sz1 un mo tl ly pw pt rb bs).2.2.2.2.1), .long ((g_M_quotient wd sz1 un mo tl ly pw pt rb bs).2.2.2.2.2.1), .int (b2i ((g_M_quotient wd sz1 un mo tl ly pw pt rb bs).2.2.2.2.2.2.1))])), (bN, .inl (kN, 2, .inl (fun k => b2i (mi k)))), (bP, .inl (kP, 2, .inl pw)), (bQ, .inl (kQ, 2, .inr (.inl pt))), (bR, .inl (kR, 33000, .inl (fun k => b2i (((g_M_quotient wd sz1 un mo tl ly pw pt rb bs).2.2.2.2.2.2.2) k))))] H := by rw [hE]; exact hP.sub [3, 0, 2, 1, 4] rfl
        have hD9 : va_D A [(bM, .inr (3, [.int cd, .int wd, .ref bT, .ref bF, .int al, .ref bN, .ref bP, .ref bQ, .ref bR, .int ((g_M_quotient wd sz1 un mo tl ly pw pt rb bs).1), .int ((g_M_quotient wd sz1 un mo tl ly pw pt rb bs).2.1), .int (b2i ((g_M_quotient wd sz1 un mo tl ly pw pt rb bs).2.2.1)), .int ((g_M_quotient wd sz1 un mo tl ly pw pt rb bs).2.2.2.1), .int (b2i sp), .int ((g_M_quotient wd sz1 un mo tl ly pw pt rb bs).2.2.2.2.1), .long ((g_M_quotient wd sz1 un mo tl ly pw pt rb bs).2.2.2.2.2.1), .int (b2i ((g_M_quotient wd sz1 un mo tl ly pw pt rb bs).2.2.2.2.2.2.1))])), (bN, .inl (kN, 2, .inl (fun k => b2i (mi k)))), (bP, .inl (kP, 2, .inl pw)), (bQ, .inl (kQ, 2, .inr (.inl pt))), (bR, .inl (kR, 33000, .inl (fun k => b2i (((g_M_quotient wd sz1 un mo tl ly pw pt rb bs).2.2.2.2.2.2.2) k))))] := by rw [hE]; exact hD.sub [3, 0, 2, 1, 4] (by decide) rfl
        exact W.vret hx hb hr (fun t ht hW => ⟨⟨(), rfl, trivial, by rw [ht]; exact hP9, hD9⟩, hS.F ht⟩) hS.2.2 d_M_quotient_175
      · skip
        refine lv_if_eq (tgt := 166) hx hb d_M_quotient_159 (by decide) (fun c_159 => ?_) (fun c_159 => ?_)
        · skip
          have c_159 : v45_0 = 0 := (lg_cmp_eq _ _).mp c_159
          refine lv_iconst (v := 0) hx hb d_M_quotient_166 (by decide) ?_
          exact J167 (false) H locs ls ⟨by clear hP hD hl hS; (try dsimp only); rw [if_pos c_159], hP.sub [0, 1, 2, 3, 4] rfl, hD.sub [0, 1, 2, 3, 4] (by decide) rfl, hS, lv_sub hl [0, 1, 2, 3] rfl⟩
        · skip
          have c_159 : ¬ v45_0 = 0 := fun h9 => c_159 ((lg_cmp_eq _ _).mpr h9)
          refine lv_iconst (v := 1) hx hb d_M_quotient_162 (by decide) ?_
          refine lv_goto (tgt := 167) hx hb d_M_quotient_163 (by decide) ?_
          exact J167 (true) H locs ls ⟨by clear hP hD hl hS; (try dsimp only); rw [if_neg c_159], hP.sub [0, 1, 2, 3, 4] rfl, hD.sub [0, 1, 2, 3, 4] (by decide) rfl, hS, lv_sub hl [0, 1, 2, 3] rfl⟩
  · skip
    have c_5 : (g_M_isNothing pw pt 0) = true := b2i_nz c_5
    refine lv_aload_n hx hb d_M_quotient_8 rfl (lv_at hl 0 rfl) ?_
    refine lv_iload_n hx hb d_M_quotient_9 rfl (lv_at hl 1 rfl) ?_
    refine lv_iconst (v := 0) hx hb d_M_quotient_10 (by decide) ?_
    refine lv_lconst (v := 0) hx hb d_M_quotient_11 (by decide) ?_
    have hPc := hP.sub (ws' := [(bM, .inr (3, [.int cd, .int wd, .ref bT, .ref bF, .int al, .ref bN, .ref bP, .ref bQ, .ref bR, .int sz1, .int un, .int (b2i mo), .int tl, .int (b2i sp), .int tpo, .long fro, .int (b2i ly)]))]) [2] rfl
    have hDc := hD.sub (ws' := [(bM, .inr (3, [.int cd, .int wd, .ref bT, .ref bF, .int al, .ref bN, .ref bP, .ref bQ, .ref bR, .int sz1, .int un, .int (b2i mo), .int tl, .int (b2i sp), .int tpo, .long fro, .int (b2i ly)]))]) [2] (by decide) rfl
    have hKc := hK.sub (tys' := []) [] rfl
    have hFc := va_free (wc := [(bM, .inr (3, [.int cd, .int wd, .ref bT, .ref bF, .int al, .ref bN, .ref bP, .ref bQ, .ref bR, .int sz1, .int un, .int (b2i mo), .int tl, .int (b2i sp), .int tpo, .long fro, .int (b2i ly)]))]) hD hS hA [2] rfl
    refine cc_v (va_runV (As := [.int (b2i bs), .int 0, .long 0]) (rest := []) ⟨hx, hb, hml, hown, htA⟩ (c_M_answer l dC dI bM bT bF bN bP bQ bR H.size cd wd al sz1 un mo tl sp tpo fro ly bs 0 0) (cwV 3 htA (gi_V k_288 k_289 k_290 k_263 (gi_code k_254)) rfl rfl rfl (by decide +kernel) ⟨Nat.le_of_ble_eq_true rfl, Nat.le_of_ble_eq_true rfl⟩) (pre_V hnw hPc hKc hDc (ci := 3) (q0 := 0) rfl rfl) rfl rfl hl.1 rfl (lv_room (Nat.le_of_ble_eq_true rfl)) d_M_quotient_12 ⟨Nat.le_of_ble_eq_true rfl, Nat.le_of_ble_eq_true rfl⟩) hS hFc hP hD [2] [0, 1, 3, 4] (wr := [(bN, .inl (kN, 2, .inl (fun k => b2i (mi k)))), (bR, .inl (kR, 33000, .inl (fun k => b2i (rb k)))), (bP, .inl (kP, 2, .inl pw)), (bQ, .inl (kQ, 2, .inr (.inl pt)))]) rfl rfl (by decide) (by decide) (fun H locs hP hD hS => ?_)
    have hP : va_P (dC, dI) classes [(bN, .inl (kN, 2, .inl (fun k => b2i (mi k)))), (bR, .inl (kR, 33000, .inl (fun k => b2i (rb k)))), (bP, .inl (kP, 2, .inl pw)), (bQ, .inl (kQ, 2, .inr (.inl pt))), (bM, .inr (3, [.int cd, .int wd, .ref bT, .ref bF, .int al, .ref bN, .ref bP, .ref bQ, .ref bR, .int sz1, .int un, .int (b2i mo), .int tl, .int (b2i sp), .int (g_M_answer bs 0), .long 0, .int (b2i ly)]))] H := hP
    have hD : va_D A [(bN, .inl (kN, 2, .inl (fun k => b2i (mi k)))), (bR, .inl (kR, 33000, .inl (fun k => b2i (rb k)))), (bP, .inl (kP, 2, .inl pw)), (bQ, .inl (kQ, 2, .inr (.inl pt))), (bM, .inr (3, [.int cd, .int wd, .ref bT, .ref bF, .int al, .ref bN, .ref bP, .ref bQ, .ref bR, .int sz1, .int un, .int (b2i mo), .int tl, .int (b2i sp), .int (g_M_answer bs 0), .long 0, .int (b2i ly)]))] := hD
    have hE : g_M_quotient wd sz1 un mo tl ly pw pt rb bs = (sz1, un, mo, tl, (g_M_answer bs 0), 0, ly, rb) := by clear hP hD hl hS; unfold g_M_quotient; (try dsimp only); rw [if_pos c_5]
    have hP9 : va_P (dC, dI) classes [(bM, .inr (3, [.int cd, .int wd, .ref bT, .ref bF, .int al, .ref bN, .ref bP, .ref bQ, .ref bR, .int ((g_M_quotient wd sz1 un mo tl ly pw pt rb bs).1), .int ((g_M_quotient wd sz1 un mo tl ly pw pt rb bs).2.1), .int (b2i ((g_M_quotient wd sz1 un mo tl ly pw pt rb bs).2.2.1)), .int ((g_M_quotient wd sz1 un mo tl ly pw pt rb bs).2.2.2.1), .int (b2i sp), .int ((g_M_quotient wd sz1 un mo tl ly pw pt rb bs).2.2.2.2.1), .long ((g_M_quotient wd sz1 un mo tl ly pw pt rb bs).2.2.2.2.2.1), .int (b2i ((g_M_quotient wd sz1 un mo tl ly pw pt rb bs).2.2.2.2.2.2.1))])), (bN, .inl (kN, 2, .inl (fun k => b2i (mi k)))), (bP, .inl (kP, 2, .inl pw)), (bQ, .inl (kQ, 2, .inr (.inl pt))), (bR, .inl (kR, 33000, .inl (fun k => b2i (((g_M_quotient wd sz1 un mo tl ly pw pt rb bs).2.2.2.2.2.2.2) k))))] H := by rw [hE]; exact hP.sub [4, 0, 2, 3, 1] rfl
    have hD9 : va_D A [(bM, .inr (3, [.int cd, .int wd, .ref bT, .ref bF, .int al, .ref bN, .ref bP, .ref bQ, .ref bR, .int ((g_M_quotient wd sz1 un mo tl ly pw pt rb bs).1), .int ((g_M_quotient wd sz1 un mo tl ly pw pt rb bs).2.1), .int (b2i ((g_M_quotient wd sz1 un mo tl ly pw pt rb bs).2.2.1)), .int ((g_M_quotient wd sz1 un mo tl ly pw pt rb bs).2.2.2.1), .int (b2i sp), .int ((g_M_quotient wd sz1 un mo tl ly pw pt rb bs).2.2.2.2.1), .long ((g_M_quotient wd sz1 un mo tl ly pw pt rb bs).2.2.2.2.2.1), .int (b2i ((g_M_quotient wd sz1 un mo tl ly pw pt rb bs).2.2.2.2.2.2.1))])), (bN, .inl (kN, 2, .inl (fun k => b2i (mi k)))), (bP, .inl (kP, 2, .inl pw)), (bQ, .inl (kQ, 2, .inr (.inl pt))), (bR, .inl (kR, 33000, .inl (fun k => b2i (((g_M_quotient wd sz1 un mo tl ly pw pt rb bs).2.2.2.2.2.2.2) k))))] := by rw [hE]; exact hD.sub [4, 0, 2, 3, 1] (by decide) rfl
    exact W.vret hx hb hr (fun t ht hW => ⟨⟨(), rfl, trivial, by rw [ht]; exact hP9, hD9⟩, hS.F ht⟩) hS.2.2 d_M_quotient_15
