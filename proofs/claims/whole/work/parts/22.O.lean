theorem d_O_takeOperands_0 : decode b_O_takeOperands 0 = .ok (.iload_n 1, 1) := by decide +kernel
theorem d_O_takeOperands_1 : decode b_O_takeOperands 1 = .ok (.iconst 2, 1) := by decide +kernel
theorem d_O_takeOperands_2 : decode b_O_takeOperands 2 = .ok (.if_icmp .eq 8, 3) := by decide +kernel
theorem d_O_takeOperands_10 : decode b_O_takeOperands 10 = .ok (.iconst 1, 1) := by decide +kernel
theorem d_O_takeOperands_11 : decode b_O_takeOperands 11 = .ok (.goto 4, 3) := by decide +kernel
theorem d_O_takeOperands_15 : decode b_O_takeOperands 15 = .ok (.istore 4, 2) := by decide +kernel
theorem d_O_takeOperands_17 : decode b_O_takeOperands 17 = .ok (.iload 4, 2) := by decide +kernel
theorem d_O_takeOperands_19 : decode b_O_takeOperands 19 = .ok (.ifCond .eq 7, 3) := by decide +kernel
theorem d_O_takeOperands_22 : decode b_O_takeOperands 22 = .ok (.iload_n 3, 1) := by decide +kernel
theorem d_O_takeOperands_23 : decode b_O_takeOperands 23 = .ok (.goto 4, 3) := by decide +kernel
theorem d_O_takeOperands_27 : decode b_O_takeOperands 27 = .ok (.istore 5, 2) := by decide +kernel
theorem d_O_takeOperands_29 : decode b_O_takeOperands 29 = .ok (.iload 4, 2) := by decide +kernel
theorem d_O_takeOperands_31 : decode b_O_takeOperands 31 = .ok (.ifCond .eq 7, 3) := by decide +kernel
theorem d_O_takeOperands_34 : decode b_O_takeOperands 34 = .ok (.iload_n 2, 1) := by decide +kernel
theorem d_O_takeOperands_35 : decode b_O_takeOperands 35 = .ok (.goto 4, 3) := by decide +kernel
theorem d_O_takeOperands_39 : decode b_O_takeOperands 39 = .ok (.istore 6, 2) := by decide +kernel
theorem d_O_takeOperands_41 : decode b_O_takeOperands 41 = .ok (.iload_n 1, 1) := by decide +kernel
theorem d_O_takeOperands_42 : decode b_O_takeOperands 42 = .ok (.bipush 6, 2) := by decide +kernel
theorem d_O_takeOperands_44 : decode b_O_takeOperands 44 = .ok (.if_icmp .ne 6, 3) := by decide +kernel
theorem d_O_takeOperands_50 : decode b_O_takeOperands 50 = .ok (.aload_n 0, 1) := by decide +kernel
theorem d_O_takeOperands_51 : decode b_O_takeOperands 51 = .ok (.getfield 27, 3) := by decide +kernel
theorem d_O_takeOperands_54 : decode b_O_takeOperands 54 = .ok (.aload_n 0, 1) := by decide +kernel
theorem d_O_takeOperands_55 : decode b_O_takeOperands 55 = .ok (.getfield 9, 3) := by decide +kernel
theorem d_O_takeOperands_58 : decode b_O_takeOperands 58 = .ok (.iload 5, 2) := by decide +kernel
theorem d_O_takeOperands_60 : decode b_O_takeOperands 60 = .ok (.iaload, 1) := by decide +kernel
theorem d_O_takeOperands_61 : decode b_O_takeOperands 61 = .ok (.aload_n 0, 1) := by decide +kernel
theorem d_O_takeOperands_62 : decode b_O_takeOperands 62 = .ok (.getfield 13, 3) := by decide +kernel
theorem d_O_takeOperands_65 : decode b_O_takeOperands 65 = .ok (.iload 5, 2) := by decide +kernel
theorem d_O_takeOperands_67 : decode b_O_takeOperands 67 = .ok (.laload, 1) := by decide +kernel
theorem d_O_takeOperands_68 : decode b_O_takeOperands 68 = .ok (.invokevirtual 97, 3) := by decide +kernel
theorem d_O_takeOperands_71 : decode b_O_takeOperands 71 = .ok (.aload_n 0, 1) := by decide +kernel
theorem d_O_takeOperands_72 : decode b_O_takeOperands 72 = .ok (.getfield 31, 3) := by decide +kernel
theorem d_O_takeOperands_75 : decode b_O_takeOperands 75 = .ok (.aload_n 0, 1) := by decide +kernel
theorem d_O_takeOperands_76 : decode b_O_takeOperands 76 = .ok (.getfield 9, 3) := by decide +kernel
theorem d_O_takeOperands_79 : decode b_O_takeOperands 79 = .ok (.iload 6, 2) := by decide +kernel
theorem d_O_takeOperands_81 : decode b_O_takeOperands 81 = .ok (.iaload, 1) := by decide +kernel
theorem d_O_takeOperands_82 : decode b_O_takeOperands 82 = .ok (.aload_n 0, 1) := by decide +kernel
theorem d_O_takeOperands_83 : decode b_O_takeOperands 83 = .ok (.getfield 13, 3) := by decide +kernel
theorem d_O_takeOperands_86 : decode b_O_takeOperands 86 = .ok (.iload 6, 2) := by decide +kernel
theorem d_O_takeOperands_88 : decode b_O_takeOperands 88 = .ok (.laload, 1) := by decide +kernel
theorem d_O_takeOperands_89 : decode b_O_takeOperands 89 = .ok (.invokevirtual 97, 3) := by decide +kernel
theorem d_O_takeOperands_92 : decode b_O_takeOperands 92 = .ok (.return_, 1) := by decide +kernel
theorem d_O_takeOperands_47 : decode b_O_takeOperands 47 = .ok (.iload_n 2, 1) := by decide +kernel
theorem d_O_takeOperands_48 : decode b_O_takeOperands 48 = .ok (.istore 6, 2) := by decide +kernel
theorem d_O_takeOperands_5 : decode b_O_takeOperands 5 = .ok (.iload_n 1, 1) := by decide +kernel
theorem d_O_takeOperands_6 : decode b_O_takeOperands 6 = .ok (.iconst 5, 1) := by decide +kernel
theorem d_O_takeOperands_7 : decode b_O_takeOperands 7 = .ok (.if_icmp .ne 7, 3) := by decide +kernel
theorem d_O_takeOperands_14 : decode b_O_takeOperands 14 = .ok (.iconst 0, 1) := by decide +kernel
theorem d_O_takeOperands_26 : decode b_O_takeOperands 26 = .ok (.iload_n 2, 1) := by decide +kernel
theorem d_O_takeOperands_38 : decode b_O_takeOperands 38 = .ok (.iload_n 3, 1) := by decide +kernel
set_option maxHeartbeats 4000000 in
set_option maxRecDepth 100000 in
theorem c_O_takeOperands (l : Launch) (dC : Nat → ClassId) (dI : Nat → Nat → Nat) (cI : ClassId) (cL : ClassId) (aO : Nat) (aT : Nat) (aF : Nat) (a1 : Nat) (a2 : Nat) (a3 : Nat) (a4 : Nat) (a5 : Nat) (sz : Nat) (cw : Int32) (ts : Int32) (fT : Nat → Int32) (fF : Nat → Int64) (n1 : Bool) (p1 : Int32) (f1 : Int64) (n2 : Bool) (p2 : Int32) (f2 : Int64) (iop : Int32) (ia : Int32) (ib : Int32) (ha8 : vp_in ia 8) (hb8 : vp_in ib 8) : Met l y_O_takeOperands w_O_takeOperands ({ frames := 2, cells := 0, slots := 0, locals := 47 }) (cPc (dC, dI) [(cI, .int), (cL, .long)] [.ref aO, .int iop, .int ia, .int ib] [(aO, .inr (0, [.ref aT, .ref aF, .int cw, .int ts, .ref a1, .ref a2, .ref a3, .ref a4, .ref a5])), (aT, .inl (cI, 8, .inl fT)), (aF, .inl (cL, 8, .inr (.inl fF))), (a1, .inr (1, [.int (b2i n1), .int p1, .long f1])), (a2, .inr (1, [.int (b2i n2), .int p2, .long f2]))] sz) (va_Qv (fun (_ : Unit) => True) (fun _ t => va_P (dC, dI) classes [(aO, .inr (0, [.ref aT, .ref aF, .int cw, .int ts, .ref a1, .ref a2, .ref a3, .ref a4, .ref a5])), (aT, .inl (cI, 8, .inl fT)), (aF, .inl (cL, 8, .inr (.inl fF))), (a1, .inr (1, [.int (b2i ((g_O_takeOperands fT fF iop ia ib).1)), .int ((g_O_takeOperands fT fF iop ia ib).2.1), .long ((g_O_takeOperands fT fF iop ia ib).2.2.1)])), (a2, .inr (1, [.int (b2i ((g_O_takeOperands fT fF iop ia ib).2.2.2.1)), .int ((g_O_takeOperands fT fF iop ia ib).2.2.2.2.1), .long ((g_O_takeOperands fT fF iop ia ib).2.2.2.2.2)]))] t.heap ∧ va_D (va_A [(aO, .inr (0, [.ref aT, .ref aF, .int cw, .int ts, .ref a1, .ref a2, .ref a3, .ref a4, .ref a5])), (aT, .inl (cI, 8, .inl fT)), (aF, .inl (cL, 8, .inr (.inl fF))), (a1, .inr (1, [.int (b2i n1), .int p1, .long f1])), (a2, .inr (1, [.int (b2i n2), .int p2, .long f2]))] sz) [(aO, .inr (0, [.ref aT, .ref aF, .int cw, .int ts, .ref a1, .ref a2, .ref a3, .ref a4, .ref a5])), (aT, .inl (cI, 8, .inl fT)), (aF, .inl (cL, 8, .inr (.inl fF))), (a1, .inr (1, [.int (b2i ((g_O_takeOperands fT fF iop ia ib).1)), .int ((g_O_takeOperands fT fF iop ia ib).2.1), .long ((g_O_takeOperands fT fF iop ia ib).2.2.1)])), (a2, .inr (1, [.int (b2i ((g_O_takeOperands fT fF iop ia ib).2.2.2.1)), .int ((g_O_takeOperands fT fF iop ia ib).2.2.2.2.1), .long ((g_O_takeOperands fT fF iop ia ib).2.2.2.2.2)]))]) (va_A [(aO, .inr (0, [.ref aT, .ref aF, .int cw, .int ts, .ref a1, .ref a2, .ref a3, .ref a4, .ref a5])), (aT, .inl (cI, 8, .inl fT)), (aF, .inl (cL, 8, .inr (.inl fF))), (a1, .inr (1, [.int (b2i n1), .int p1, .long f1])), (a2, .inr (1, [.int (b2i n2), .int p2, .long f2]))] sz)) 0 0 (va_A [(aO, .inr (0, [.ref aT, .ref aF, .int cw, .int ts, .ref a1, .ref a2, .ref a3, .ref a4, .ref a5])), (aT, .inl (cI, 8, .inl fT)), (aF, .inl (cL, 8, .inr (.inl fF))), (a1, .inr (1, [.int (b2i n1), .int p1, .long f1])), (a2, .inr (1, [.int (b2i n2), .int p2, .long f2]))] sz) := by
  refine Met.ofW (cc := b_O_takeOperands) (maxL := 7) (ret := none) (by decide) rfl ?_
  intro p e s m args below meth c s₁ B hml hv
  obtain ⟨rfl, hsz, hP, hK, hD0, hnw⟩ := hv
  have hx := B.exec
  have hb := B.bytes
  have hr := B.returns
  have hts := atoms_spec (ws := w_O_takeOperands) B.pre
  have htA : ∀ w ∈ wAll, w.before _ s = true := fun w h => hts w (List.mem_cons_of_mem _ h)
  have hown : s.vm.findClass R_O = some m.cls := findClass_of_methodNamed B.named
  have hlocks := B.notSynchronized
  subst hsz
  have hD := hD0.self (sz := s.heap.size)
  generalize hAe : va_A [(aO, .inr (0, [.ref aT, .ref aF, .int cw, .int ts, .ref a1, .ref a2, .ref a3, .ref a4, .ref a5])), (aT, .inl (cI, 8, .inl fT)), (aF, .inl (cL, 8, .inr (.inl fF))), (a1, .inr (1, [.int (b2i n1), .int p1, .long f1])), (a2, .inr (1, [.int (b2i n2), .int p2, .long f2]))] s.heap.size = A at hD ⊢
  have hA : ∀ q : Nat, s.heap.size ≤ q → A q := fun q h => by rw [← hAe]; exact Or.inr h
  have hS : va_S A s.heap s.heap [] := va_S.rf
  have hP : va_P (dC, dI) classes [(aO, .inr (0, [.ref aT, .ref aF, .int cw, .int ts, .ref a1, .ref a2, .ref a3, .ref a4, .ref a5])), (aT, .inl (cI, 8, .inl fT)), (aF, .inl (cL, 8, .inr (.inl fF))), (a1, .inr (1, [.int (b2i n1), .int p1, .long f1])), (a2, .inr (1, [.int (b2i n2), .int p2, .long f2]))] s.heap := hP
  obtain ⟨H, eH⟩ : ∃ z, z = s.heap := ⟨_, rfl⟩
  rw [← eH] at hP
  have hS : va_S A s.heap H [] := by rw [eH]; exact hS
  rw [← eH]
  generalize ([] : List Loc) = locs at hS ⊢
  have hl := lv_entry ([.ref aO, .int iop, .int ia, .int ib]) (n := 7) (Nat.le_of_ble_eq_true rfl)
  rw [lg_entry_eq]
  generalize (lg_sl ([.ref aO, .int iop, .int ia, .int ib]) ++ List.replicate (7 - (lg_sl ([.ref aO, .int iop, .int ia, .int ib])).length) Slot.unset).toArray = ls at hl ⊢
  have hl : lv_has ls 7 [(0, .ref aO), (1, .int iop), (2, .int ia), (3, .int ib)] := hl
  refine lv_iload_n hx hb d_O_takeOperands_0 rfl (lv_at hl 1 rfl) ?_
  refine lv_iconst (v := 2) hx hb d_O_takeOperands_1 (by decide) ?_
  refine lv_icmp_eq (tgt := 10) hx hb d_O_takeOperands_2 (by decide) (fun c_2 => ?_) (fun c_2 => ?_)
  · skip
    refine lv_iconst (v := 1) hx hb d_O_takeOperands_10 (by decide) ?_
    refine lv_goto (tgt := 15) hx hb d_O_takeOperands_11 (by decide) ?_
    refine lv_istore (lv' := [(4, .int 1), (0, .ref aO), (1, .int iop), (2, .int ia), (3, .int ib)]) hx hb d_O_takeOperands_15 hl (by decide) rfl (fun ls hl => ?_)
    refine lv_iload hx hb d_O_takeOperands_17 (lv_at hl 0 rfl) ?_
    refine lv_if_eq (tgt := 26) hx hb d_O_takeOperands_19 (by decide) (fun c_19 => absurd c_19 (by decide)) (fun _ => ?_)
    refine lv_iload_n hx hb d_O_takeOperands_22 rfl (lv_at hl 4 rfl) ?_
    refine lv_goto (tgt := 27) hx hb d_O_takeOperands_23 (by decide) ?_
    refine lv_istore (lv' := [(5, .int ib), (4, .int 1), (0, .ref aO), (1, .int iop), (2, .int ia), (3, .int ib)]) hx hb d_O_takeOperands_27 hl (by decide) rfl (fun ls hl => ?_)
    refine lv_iload hx hb d_O_takeOperands_29 (lv_at hl 1 rfl) ?_
    refine lv_if_eq (tgt := 38) hx hb d_O_takeOperands_31 (by decide) (fun c_31 => absurd c_31 (by decide)) (fun _ => ?_)
    refine lv_iload_n hx hb d_O_takeOperands_34 rfl (lv_at hl 4 rfl) ?_
    refine lv_goto (tgt := 39) hx hb d_O_takeOperands_35 (by decide) ?_
    refine lv_istore (lv' := [(6, .int ia), (5, .int ib), (4, .int 1), (0, .ref aO), (1, .int iop), (2, .int ia), (3, .int ib)]) hx hb d_O_takeOperands_39 hl (by decide) rfl (fun ls hl => ?_)
    refine lv_iload_n hx hb d_O_takeOperands_41 rfl (lv_at hl 4 rfl) ?_
    refine lv_bipush (v := 6) hx hb d_O_takeOperands_42 (by decide) ?_
    refine lv_icmp_ne (tgt := 50) hx hb d_O_takeOperands_44 (by decide) (fun c_44 => ?_) (fun c_44 => ?_)
    · skip
      refine lv_aload_n hx hb d_O_takeOperands_50 rfl (lv_at hl 3 rfl) ?_
      refine va_get (D := (dC, dI)) (ci := 0) (v := .ref a1) (C := R_O) (T := F_O) (N := 9) hx hb htA in_O hown hK hP 0 rfl rfl 4 (by decide) (htA _ k_104) (fun _ h9 => h9) rfl d_O_takeOperands_51 ?_
      refine lv_aload_n hx hb d_O_takeOperands_54 rfl (lv_at hl 3 rfl) ?_
      refine va_get (D := (dC, dI)) (ci := 0) (v := .ref aT) (C := R_O) (T := F_O) (N := 9) hx hb htA in_O hown hK hP 0 rfl rfl 0 (by decide) (htA _ k_201) (fun _ h9 => h9) rfl d_O_takeOperands_55 ?_
      refine lv_iload hx hb d_O_takeOperands_58 (lv_at hl 1 rfl) ?_
      refine va_iald hx hb hK hP 1 0 rfl rfl hb8 d_O_takeOperands_60 ?_
      refine lv_aload_n hx hb d_O_takeOperands_61 rfl (lv_at hl 3 rfl) ?_
      refine va_get (D := (dC, dI)) (ci := 0) (v := .ref aF) (C := R_O) (T := F_O) (N := 9) hx hb htA in_O hown hK hP 0 rfl rfl 1 (by decide) (htA _ k_202) (fun _ h9 => h9) rfl d_O_takeOperands_62 ?_
      refine lv_iload hx hb d_O_takeOperands_65 (lv_at hl 1 rfl) ?_
      refine va_lald hx hb hK hP 2 1 rfl rfl hb8 d_O_takeOperands_67 ?_
      have hPc := hP.sub (ws' := [(a1, .inr (1, [.int (b2i n1), .int p1, .long f1]))]) [3] rfl
      have hDc := hD.sub (ws' := [(a1, .inr (1, [.int (b2i n1), .int p1, .long f1]))]) [3] (by decide) rfl
      have hKc := hK.sub (tys' := []) [] rfl
      have hFc := va_free (wc := [(a1, .inr (1, [.int (b2i n1), .int p1, .long f1]))]) hD hS hA [3] rfl
      refine cc_v (va_runVN (As := [.int (fT ib.toNatClampNeg), .long (fF ib.toNatClampNeg)]) (rest := []) ⟨hx, hb, hml, hown, htA⟩ (c_R_take l dC dI a1 H.size n1 p1 f1 (fT ib.toNatClampNeg) (fF ib.toNatClampNeg)) ⟨va_cnB 2 htA (gi_code k_24) rfl rfl rfl (hnw _ n_26) (htA _ k_20) (by decide +kernel) ⟨Nat.le_of_ble_eq_true rfl, Nat.le_of_ble_eq_true rfl⟩, htA _ k_203, htA _ k_204⟩ (pre_V hnw hPc hKc hDc (ci := 1) (q0 := 0) rfl rfl) rfl rfl hl.1 rfl (lv_room (Nat.le_of_ble_eq_true rfl)) d_O_takeOperands_68 ⟨Nat.le_of_ble_eq_true rfl, Nat.le_of_ble_eq_true rfl⟩) hS hFc hP hD [3] [0, 1, 2, 4] (wr := [(aO, .inr (0, [.ref aT, .ref aF, .int cw, .int ts, .ref a1, .ref a2, .ref a3, .ref a4, .ref a5])), (aT, .inl (cI, 8, .inl fT)), (aF, .inl (cL, 8, .inr (.inl fF))), (a2, .inr (1, [.int (b2i n2), .int p2, .long f2]))]) rfl rfl (by decide) (by decide) (fun H locs hP hD hS => ?_)
      obtain ⟨z68, ez68⟩ : ∃ z, g_R_take (fT ib.toNatClampNeg) = z := ⟨_, rfl⟩
      rw [ez68] at hP hD
      have hP : va_P (dC, dI) classes [(aO, .inr (0, [.ref aT, .ref aF, .int cw, .int ts, .ref a1, .ref a2, .ref a3, .ref a4, .ref a5])), (aT, .inl (cI, 8, .inl fT)), (aF, .inl (cL, 8, .inr (.inl fF))), (a2, .inr (1, [.int (b2i n2), .int p2, .long f2])), (a1, .inr (1, [.int (b2i z68.1), .int z68.2, .long (fF ib.toNatClampNeg)]))] H := hP
      have hD : va_D A [(aO, .inr (0, [.ref aT, .ref aF, .int cw, .int ts, .ref a1, .ref a2, .ref a3, .ref a4, .ref a5])), (aT, .inl (cI, 8, .inl fT)), (aF, .inl (cL, 8, .inr (.inl fF))), (a2, .inr (1, [.int (b2i n2), .int p2, .long f2])), (a1, .inr (1, [.int (b2i z68.1), .int z68.2, .long (fF ib.toNatClampNeg)]))] := hD
      refine lv_aload_n hx hb d_O_takeOperands_71 rfl (lv_at hl 3 rfl) ?_
      refine va_get (D := (dC, dI)) (ci := 0) (v := .ref a2) (C := R_O) (T := F_O) (N := 9) hx hb htA in_O hown hK hP 0 rfl rfl 5 (by decide) (htA _ k_105) (fun _ h9 => h9) rfl d_O_takeOperands_72 ?_
      refine lv_aload_n hx hb d_O_takeOperands_75 rfl (lv_at hl 3 rfl) ?_
      refine va_get (D := (dC, dI)) (ci := 0) (v := .ref aT) (C := R_O) (T := F_O) (N := 9) hx hb htA in_O hown hK hP 0 rfl rfl 0 (by decide) (htA _ k_201) (fun _ h9 => h9) rfl d_O_takeOperands_76 ?_
      refine lv_iload hx hb d_O_takeOperands_79 (lv_at hl 0 rfl) ?_
      refine va_iald hx hb hK hP 1 0 rfl rfl ha8 d_O_takeOperands_81 ?_
      refine lv_aload_n hx hb d_O_takeOperands_82 rfl (lv_at hl 3 rfl) ?_
      refine va_get (D := (dC, dI)) (ci := 0) (v := .ref aF) (C := R_O) (T := F_O) (N := 9) hx hb htA in_O hown hK hP 0 rfl rfl 1 (by decide) (htA _ k_202) (fun _ h9 => h9) rfl d_O_takeOperands_83 ?_
      refine lv_iload hx hb d_O_takeOperands_86 (lv_at hl 0 rfl) ?_
      refine va_lald hx hb hK hP 2 1 rfl rfl ha8 d_O_takeOperands_88 ?_
      have hPc := hP.sub (ws' := [(a2, .inr (1, [.int (b2i n2), .int p2, .long f2]))]) [3] rfl
      have hDc := hD.sub (ws' := [(a2, .inr (1, [.int (b2i n2), .int p2, .long f2]))]) [3] (by decide) rfl
      have hKc := hK.sub (tys' := []) [] rfl
      have hFc := va_free (wc := [(a2, .inr (1, [.int (b2i n2), .int p2, .long f2]))]) hD hS hA [3] rfl
      refine cc_v (va_runVN (As := [.int (fT ia.toNatClampNeg), .long (fF ia.toNatClampNeg)]) (rest := []) ⟨hx, hb, hml, hown, htA⟩ (c_R_take l dC dI a2 H.size n2 p2 f2 (fT ia.toNatClampNeg) (fF ia.toNatClampNeg)) ⟨va_cnB 2 htA (gi_code k_24) rfl rfl rfl (hnw _ n_26) (htA _ k_20) (by decide +kernel) ⟨Nat.le_of_ble_eq_true rfl, Nat.le_of_ble_eq_true rfl⟩, htA _ k_203, htA _ k_204⟩ (pre_V hnw hPc hKc hDc (ci := 1) (q0 := 0) rfl rfl) rfl rfl hl.1 rfl (lv_room (Nat.le_of_ble_eq_true rfl)) d_O_takeOperands_89 ⟨Nat.le_of_ble_eq_true rfl, Nat.le_of_ble_eq_true rfl⟩) hS hFc hP hD [3] [0, 1, 2, 4] (wr := [(aO, .inr (0, [.ref aT, .ref aF, .int cw, .int ts, .ref a1, .ref a2, .ref a3, .ref a4, .ref a5])), (aT, .inl (cI, 8, .inl fT)), (aF, .inl (cL, 8, .inr (.inl fF))), (a1, .inr (1, [.int (b2i z68.1), .int z68.2, .long (fF ib.toNatClampNeg)]))]) rfl rfl (by decide) (by decide) (fun H locs hP hD hS => ?_)
      obtain ⟨z89, ez89⟩ : ∃ z, g_R_take (fT ia.toNatClampNeg) = z := ⟨_, rfl⟩
      rw [ez89] at hP hD
      have hP : va_P (dC, dI) classes [(aO, .inr (0, [.ref aT, .ref aF, .int cw, .int ts, .ref a1, .ref a2, .ref a3, .ref a4, .ref a5])), (aT, .inl (cI, 8, .inl fT)), (aF, .inl (cL, 8, .inr (.inl fF))), (a1, .inr (1, [.int (b2i z68.1), .int z68.2, .long (fF ib.toNatClampNeg)])), (a2, .inr (1, [.int (b2i z89.1), .int z89.2, .long (fF ia.toNatClampNeg)]))] H := hP
      have hD : va_D A [(aO, .inr (0, [.ref aT, .ref aF, .int cw, .int ts, .ref a1, .ref a2, .ref a3, .ref a4, .ref a5])), (aT, .inl (cI, 8, .inl fT)), (aF, .inl (cL, 8, .inr (.inl fF))), (a1, .inr (1, [.int (b2i z68.1), .int z68.2, .long (fF ib.toNatClampNeg)])), (a2, .inr (1, [.int (b2i z89.1), .int z89.2, .long (fF ia.toNatClampNeg)]))] := hD
      have hE : g_O_takeOperands fT fF iop ia ib = (z68.1, z68.2, (fF ib.toNatClampNeg), z89.1, z89.2, (fF ia.toNatClampNeg)) := by clear hP hD hl hS; subst ez89; subst ez68; unfold g_O_takeOperands; (try dsimp only); rw [if_pos c_2, if_neg c_44]
      have hP9 : va_P (dC, dI) classes [(aO, .inr (0, [.ref aT, .ref aF, .int cw, .int ts, .ref a1, .ref a2, .ref a3, .ref a4, .ref a5])), (aT, .inl (cI, 8, .inl fT)), (aF, .inl (cL, 8, .inr (.inl fF))), (a1, .inr (1, [.int (b2i ((g_O_takeOperands fT fF iop ia ib).1)), .int ((g_O_takeOperands fT fF iop ia ib).2.1), .long ((g_O_takeOperands fT fF iop ia ib).2.2.1)])), (a2, .inr (1, [.int (b2i ((g_O_takeOperands fT fF iop ia ib).2.2.2.1)), .int ((g_O_takeOperands fT fF iop ia ib).2.2.2.2.1), .long ((g_O_takeOperands fT fF iop ia ib).2.2.2.2.2)]))] H := by rw [hE]; exact hP.sub [0, 1, 2, 3, 4] rfl
      have hD9 : va_D A [(aO, .inr (0, [.ref aT, .ref aF, .int cw, .int ts, .ref a1, .ref a2, .ref a3, .ref a4, .ref a5])), (aT, .inl (cI, 8, .inl fT)), (aF, .inl (cL, 8, .inr (.inl fF))), (a1, .inr (1, [.int (b2i ((g_O_takeOperands fT fF iop ia ib).1)), .int ((g_O_takeOperands fT fF iop ia ib).2.1), .long ((g_O_takeOperands fT fF iop ia ib).2.2.1)])), (a2, .inr (1, [.int (b2i ((g_O_takeOperands fT fF iop ia ib).2.2.2.1)), .int ((g_O_takeOperands fT fF iop ia ib).2.2.2.2.1), .long ((g_O_takeOperands fT fF iop ia ib).2.2.2.2.2)]))] := by rw [hE]; exact hD.sub [0, 1, 2, 3, 4] (by decide) rfl
      exact W.vret hx hb hr (fun t ht hW => ⟨⟨(), rfl, trivial, by rw [ht]; exact hP9, hD9⟩, hS.F ht⟩) hS.2.2 d_O_takeOperands_92
    · skip
      refine lv_iload_n hx hb d_O_takeOperands_47 rfl (lv_at hl 5 rfl) ?_
      refine lv_istore (lv' := [(6, .int ia), (5, .int ib), (4, .int 1), (0, .ref aO), (1, .int iop), (2, .int ia), (3, .int ib)]) hx hb d_O_takeOperands_48 hl (by decide) rfl (fun ls hl => ?_)
      refine lv_aload_n hx hb d_O_takeOperands_50 rfl (lv_at hl 3 rfl) ?_
      refine va_get (D := (dC, dI)) (ci := 0) (v := .ref a1) (C := R_O) (T := F_O) (N := 9) hx hb htA in_O hown hK hP 0 rfl rfl 4 (by decide) (htA _ k_104) (fun _ h9 => h9) rfl d_O_takeOperands_51 ?_
      refine lv_aload_n hx hb d_O_takeOperands_54 rfl (lv_at hl 3 rfl) ?_
      refine va_get (D := (dC, dI)) (ci := 0) (v := .ref aT) (C := R_O) (T := F_O) (N := 9) hx hb htA in_O hown hK hP 0 rfl rfl 0 (by decide) (htA _ k_201) (fun _ h9 => h9) rfl d_O_takeOperands_55 ?_
      refine lv_iload hx hb d_O_takeOperands_58 (lv_at hl 1 rfl) ?_
      refine va_iald hx hb hK hP 1 0 rfl rfl hb8 d_O_takeOperands_60 ?_
      refine lv_aload_n hx hb d_O_takeOperands_61 rfl (lv_at hl 3 rfl) ?_
      refine va_get (D := (dC, dI)) (ci := 0) (v := .ref aF) (C := R_O) (T := F_O) (N := 9) hx hb htA in_O hown hK hP 0 rfl rfl 1 (by decide) (htA _ k_202) (fun _ h9 => h9) rfl d_O_takeOperands_62 ?_
      refine lv_iload hx hb d_O_takeOperands_65 (lv_at hl 1 rfl) ?_
      refine va_lald hx hb hK hP 2 1 rfl rfl hb8 d_O_takeOperands_67 ?_
      have hPc := hP.sub (ws' := [(a1, .inr (1, [.int (b2i n1), .int p1, .long f1]))]) [3] rfl
      have hDc := hD.sub (ws' := [(a1, .inr (1, [.int (b2i n1), .int p1, .long f1]))]) [3] (by decide) rfl
      have hKc := hK.sub (tys' := []) [] rfl
      have hFc := va_free (wc := [(a1, .inr (1, [.int (b2i n1), .int p1, .long f1]))]) hD hS hA [3] rfl
      refine cc_v (va_runVN (As := [.int (fT ib.toNatClampNeg), .long (fF ib.toNatClampNeg)]) (rest := []) ⟨hx, hb, hml, hown, htA⟩ (c_R_take l dC dI a1 H.size n1 p1 f1 (fT ib.toNatClampNeg) (fF ib.toNatClampNeg)) ⟨va_cnB 2 htA (gi_code k_24) rfl rfl rfl (hnw _ n_26) (htA _ k_20) (by decide +kernel) ⟨Nat.le_of_ble_eq_true rfl, Nat.le_of_ble_eq_true rfl⟩, htA _ k_203, htA _ k_204⟩ (pre_V hnw hPc hKc hDc (ci := 1) (q0 := 0) rfl rfl) rfl rfl hl.1 rfl (lv_room (Nat.le_of_ble_eq_true rfl)) d_O_takeOperands_68 ⟨Nat.le_of_ble_eq_true rfl, Nat.le_of_ble_eq_true rfl⟩) hS hFc hP hD [3] [0, 1, 2, 4] (wr := [(aO, .inr (0, [.ref aT, .ref aF, .int cw, .int ts, .ref a1, .ref a2, .ref a3, .ref a4, .ref a5])), (aT, .inl (cI, 8, .inl fT)), (aF, .inl (cL, 8, .inr (.inl fF))), (a2, .inr (1, [.int (b2i n2), .int p2, .long f2]))]) rfl rfl (by decide) (by decide) (fun H locs hP hD hS => ?_)
      obtain ⟨z68, ez68⟩ : ∃ z, g_R_take (fT ib.toNatClampNeg) = z := ⟨_, rfl⟩
      rw [ez68] at hP hD
      have hP : va_P (dC, dI) classes [(aO, .inr (0, [.ref aT, .ref aF, .int cw, .int ts, .ref a1, .ref a2, .ref a3, .ref a4, .ref a5])), (aT, .inl (cI, 8, .inl fT)), (aF, .inl (cL, 8, .inr (.inl fF))), (a2, .inr (1, [.int (b2i n2), .int p2, .long f2])), (a1, .inr (1, [.int (b2i z68.1), .int z68.2, .long (fF ib.toNatClampNeg)]))] H := hP
      have hD : va_D A [(aO, .inr (0, [.ref aT, .ref aF, .int cw, .int ts, .ref a1, .ref a2, .ref a3, .ref a4, .ref a5])), (aT, .inl (cI, 8, .inl fT)), (aF, .inl (cL, 8, .inr (.inl fF))), (a2, .inr (1, [.int (b2i n2), .int p2, .long f2])), (a1, .inr (1, [.int (b2i z68.1), .int z68.2, .long (fF ib.toNatClampNeg)]))] := hD
      refine lv_aload_n hx hb d_O_takeOperands_71 rfl (lv_at hl 3 rfl) ?_
      refine va_get (D := (dC, dI)) (ci := 0) (v := .ref a2) (C := R_O) (T := F_O) (N := 9) hx hb htA in_O hown hK hP 0 rfl rfl 5 (by decide) (htA _ k_105) (fun _ h9 => h9) rfl d_O_takeOperands_72 ?_
      refine lv_aload_n hx hb d_O_takeOperands_75 rfl (lv_at hl 3 rfl) ?_
      refine va_get (D := (dC, dI)) (ci := 0) (v := .ref aT) (C := R_O) (T := F_O) (N := 9) hx hb htA in_O hown hK hP 0 rfl rfl 0 (by decide) (htA _ k_201) (fun _ h9 => h9) rfl d_O_takeOperands_76 ?_
      refine lv_iload hx hb d_O_takeOperands_79 (lv_at hl 0 rfl) ?_
      refine va_iald hx hb hK hP 1 0 rfl rfl ha8 d_O_takeOperands_81 ?_
      refine lv_aload_n hx hb d_O_takeOperands_82 rfl (lv_at hl 3 rfl) ?_
      refine va_get (D := (dC, dI)) (ci := 0) (v := .ref aF) (C := R_O) (T := F_O) (N := 9) hx hb htA in_O hown hK hP 0 rfl rfl 1 (by decide) (htA _ k_202) (fun _ h9 => h9) rfl d_O_takeOperands_83 ?_
      refine lv_iload hx hb d_O_takeOperands_86 (lv_at hl 0 rfl) ?_
      refine va_lald hx hb hK hP 2 1 rfl rfl ha8 d_O_takeOperands_88 ?_
      have hPc := hP.sub (ws' := [(a2, .inr (1, [.int (b2i n2), .int p2, .long f2]))]) [3] rfl
      have hDc := hD.sub (ws' := [(a2, .inr (1, [.int (b2i n2), .int p2, .long f2]))]) [3] (by decide) rfl
      have hKc := hK.sub (tys' := []) [] rfl
      have hFc := va_free (wc := [(a2, .inr (1, [.int (b2i n2), .int p2, .long f2]))]) hD hS hA [3] rfl
      refine cc_v (va_runVN (As := [.int (fT ia.toNatClampNeg), .long (fF ia.toNatClampNeg)]) (rest := []) ⟨hx, hb, hml, hown, htA⟩ (c_R_take l dC dI a2 H.size n2 p2 f2 (fT ia.toNatClampNeg) (fF ia.toNatClampNeg)) ⟨va_cnB 2 htA (gi_code k_24) rfl rfl rfl (hnw _ n_26) (htA _ k_20) (by decide +kernel) ⟨Nat.le_of_ble_eq_true rfl, Nat.le_of_ble_eq_true rfl⟩, htA _ k_203, htA _ k_204⟩ (pre_V hnw hPc hKc hDc (ci := 1) (q0 := 0) rfl rfl) rfl rfl hl.1 rfl (lv_room (Nat.le_of_ble_eq_true rfl)) d_O_takeOperands_89 ⟨Nat.le_of_ble_eq_true rfl, Nat.le_of_ble_eq_true rfl⟩) hS hFc hP hD [3] [0, 1, 2, 4] (wr := [(aO, .inr (0, [.ref aT, .ref aF, .int cw, .int ts, .ref a1, .ref a2, .ref a3, .ref a4, .ref a5])), (aT, .inl (cI, 8, .inl fT)), (aF, .inl (cL, 8, .inr (.inl fF))), (a1, .inr (1, [.int (b2i z68.1), .int z68.2, .long (fF ib.toNatClampNeg)]))]) rfl rfl (by decide) (by decide) (fun H locs hP hD hS => ?_)
      obtain ⟨z89, ez89⟩ : ∃ z, g_R_take (fT ia.toNatClampNeg) = z := ⟨_, rfl⟩
      rw [ez89] at hP hD
      have hP : va_P (dC, dI) classes [(aO, .inr (0, [.ref aT, .ref aF, .int cw, .int ts, .ref a1, .ref a2, .ref a3, .ref a4, .ref a5])), (aT, .inl (cI, 8, .inl fT)), (aF, .inl (cL, 8, .inr (.inl fF))), (a1, .inr (1, [.int (b2i z68.1), .int z68.2, .long (fF ib.toNatClampNeg)])), (a2, .inr (1, [.int (b2i z89.1), .int z89.2, .long (fF ia.toNatClampNeg)]))] H := hP
      have hD : va_D A [(aO, .inr (0, [.ref aT, .ref aF, .int cw, .int ts, .ref a1, .ref a2, .ref a3, .ref a4, .ref a5])), (aT, .inl (cI, 8, .inl fT)), (aF, .inl (cL, 8, .inr (.inl fF))), (a1, .inr (1, [.int (b2i z68.1), .int z68.2, .long (fF ib.toNatClampNeg)])), (a2, .inr (1, [.int (b2i z89.1), .int z89.2, .long (fF ia.toNatClampNeg)]))] := hD
      have hE : g_O_takeOperands fT fF iop ia ib = (z68.1, z68.2, (fF ib.toNatClampNeg), z89.1, z89.2, (fF ia.toNatClampNeg)) := by clear hP hD hl hS; subst ez89; subst ez68; unfold g_O_takeOperands; (try dsimp only); rw [if_pos c_2, if_pos c_44]
      have hP9 : va_P (dC, dI) classes [(aO, .inr (0, [.ref aT, .ref aF, .int cw, .int ts, .ref a1, .ref a2, .ref a3, .ref a4, .ref a5])), (aT, .inl (cI, 8, .inl fT)), (aF, .inl (cL, 8, .inr (.inl fF))), (a1, .inr (1, [.int (b2i ((g_O_takeOperands fT fF iop ia ib).1)), .int ((g_O_takeOperands fT fF iop ia ib).2.1), .long ((g_O_takeOperands fT fF iop ia ib).2.2.1)])), (a2, .inr (1, [.int (b2i ((g_O_takeOperands fT fF iop ia ib).2.2.2.1)), .int ((g_O_takeOperands fT fF iop ia ib).2.2.2.2.1), .long ((g_O_takeOperands fT fF iop ia ib).2.2.2.2.2)]))] H := by rw [hE]; exact hP.sub [0, 1, 2, 3, 4] rfl
      have hD9 : va_D A [(aO, .inr (0, [.ref aT, .ref aF, .int cw, .int ts, .ref a1, .ref a2, .ref a3, .ref a4, .ref a5])), (aT, .inl (cI, 8, .inl fT)), (aF, .inl (cL, 8, .inr (.inl fF))), (a1, .inr (1, [.int (b2i ((g_O_takeOperands fT fF iop ia ib).1)), .int ((g_O_takeOperands fT fF iop ia ib).2.1), .long ((g_O_takeOperands fT fF iop ia ib).2.2.1)])), (a2, .inr (1, [.int (b2i ((g_O_takeOperands fT fF iop ia ib).2.2.2.1)), .int ((g_O_takeOperands fT fF iop ia ib).2.2.2.2.1), .long ((g_O_takeOperands fT fF iop ia ib).2.2.2.2.2)]))] := by rw [hE]; exact hD.sub [0, 1, 2, 3, 4] (by decide) rfl
      exact W.vret hx hb hr (fun t ht hW => ⟨⟨(), rfl, trivial, by rw [ht]; exact hP9, hD9⟩, hS.F ht⟩) hS.2.2 d_O_takeOperands_92
  · skip
    refine lv_iload_n hx hb d_O_takeOperands_5 rfl (lv_at hl 1 rfl) ?_
    refine lv_iconst (v := 5) hx hb d_O_takeOperands_6 (by decide) ?_
    refine lv_icmp_ne (tgt := 14) hx hb d_O_takeOperands_7 (by decide) (fun c_7 => ?_) (fun c_7 => ?_)
    · skip
      refine lv_iconst (v := 0) hx hb d_O_takeOperands_14 (by decide) ?_
      refine lv_istore (lv' := [(4, .int 0), (0, .ref aO), (1, .int iop), (2, .int ia), (3, .int ib)]) hx hb d_O_takeOperands_15 hl (by decide) rfl (fun ls hl => ?_)
      refine lv_iload hx hb d_O_takeOperands_17 (lv_at hl 0 rfl) ?_
      refine lv_if_eq (tgt := 26) hx hb d_O_takeOperands_19 (by decide) (fun _ => ?_) (fun c_19 => absurd c_19 (by decide))
      refine lv_iload_n hx hb d_O_takeOperands_26 rfl (lv_at hl 3 rfl) ?_
      refine lv_istore (lv' := [(5, .int ia), (4, .int 0), (0, .ref aO), (1, .int iop), (2, .int ia), (3, .int ib)]) hx hb d_O_takeOperands_27 hl (by decide) rfl (fun ls hl => ?_)
      refine lv_iload hx hb d_O_takeOperands_29 (lv_at hl 1 rfl) ?_
      refine lv_if_eq (tgt := 38) hx hb d_O_takeOperands_31 (by decide) (fun _ => ?_) (fun c_31 => absurd c_31 (by decide))
      refine lv_iload_n hx hb d_O_takeOperands_38 rfl (lv_at hl 5 rfl) ?_
      refine lv_istore (lv' := [(6, .int ib), (5, .int ia), (4, .int 0), (0, .ref aO), (1, .int iop), (2, .int ia), (3, .int ib)]) hx hb d_O_takeOperands_39 hl (by decide) rfl (fun ls hl => ?_)
      refine lv_iload_n hx hb d_O_takeOperands_41 rfl (lv_at hl 4 rfl) ?_
      refine lv_bipush (v := 6) hx hb d_O_takeOperands_42 (by decide) ?_
      refine lv_icmp_ne (tgt := 50) hx hb d_O_takeOperands_44 (by decide) (fun c_44 => ?_) (fun c_44 => ?_)
      · skip
        refine lv_aload_n hx hb d_O_takeOperands_50 rfl (lv_at hl 3 rfl) ?_
        refine va_get (D := (dC, dI)) (ci := 0) (v := .ref a1) (C := R_O) (T := F_O) (N := 9) hx hb htA in_O hown hK hP 0 rfl rfl 4 (by decide) (htA _ k_104) (fun _ h9 => h9) rfl d_O_takeOperands_51 ?_
        refine lv_aload_n hx hb d_O_takeOperands_54 rfl (lv_at hl 3 rfl) ?_
        refine va_get (D := (dC, dI)) (ci := 0) (v := .ref aT) (C := R_O) (T := F_O) (N := 9) hx hb htA in_O hown hK hP 0 rfl rfl 0 (by decide) (htA _ k_201) (fun _ h9 => h9) rfl d_O_takeOperands_55 ?_
        refine lv_iload hx hb d_O_takeOperands_58 (lv_at hl 1 rfl) ?_
        refine va_iald hx hb hK hP 1 0 rfl rfl ha8 d_O_takeOperands_60 ?_
        refine lv_aload_n hx hb d_O_takeOperands_61 rfl (lv_at hl 3 rfl) ?_
        refine va_get (D := (dC, dI)) (ci := 0) (v := .ref aF) (C := R_O) (T := F_O) (N := 9) hx hb htA in_O hown hK hP 0 rfl rfl 1 (by decide) (htA _ k_202) (fun _ h9 => h9) rfl d_O_takeOperands_62 ?_
        refine lv_iload hx hb d_O_takeOperands_65 (lv_at hl 1 rfl) ?_
        refine va_lald hx hb hK hP 2 1 rfl rfl ha8 d_O_takeOperands_67 ?_
        have hPc := hP.sub (ws' := [(a1, .inr (1, [.int (b2i n1), .int p1, .long f1]))]) [3] rfl
        have hDc := hD.sub (ws' := [(a1, .inr (1, [.int (b2i n1), .int p1, .long f1]))]) [3] (by decide) rfl
        have hKc := hK.sub (tys' := []) [] rfl
        have hFc := va_free (wc := [(a1, .inr (1, [.int (b2i n1), .int p1, .long f1]))]) hD hS hA [3] rfl
        refine cc_v (va_runVN (As := [.int (fT ia.toNatClampNeg), .long (fF ia.toNatClampNeg)]) (rest := []) ⟨hx, hb, hml, hown, htA⟩ (c_R_take l dC dI a1 H.size n1 p1 f1 (fT ia.toNatClampNeg) (fF ia.toNatClampNeg)) ⟨va_cnB 2 htA (gi_code k_24) rfl rfl rfl (hnw _ n_26) (htA _ k_20) (by decide +kernel) ⟨Nat.le_of_ble_eq_true rfl, Nat.le_of_ble_eq_true rfl⟩, htA _ k_203, htA _ k_204⟩ (pre_V hnw hPc hKc hDc (ci := 1) (q0 := 0) rfl rfl) rfl rfl hl.1 rfl (lv_room (Nat.le_of_ble_eq_true rfl)) d_O_takeOperands_68 ⟨Nat.le_of_ble_eq_true rfl, Nat.le_of_ble_eq_true rfl⟩) hS hFc hP hD [3] [0, 1, 2, 4] (wr := [(aO, .inr (0, [.ref aT, .ref aF, .int cw, .int ts, .ref a1, .ref a2, .ref a3, .ref a4, .ref a5])), (aT, .inl (cI, 8, .inl fT)), (aF, .inl (cL, 8, .inr (.inl fF))), (a2, .inr (1, [.int (b2i n2), .int p2, .long f2]))]) rfl rfl (by decide) (by decide) (fun H locs hP hD hS => ?_)
        obtain ⟨z68, ez68⟩ : ∃ z, g_R_take (fT ia.toNatClampNeg) = z := ⟨_, rfl⟩
        rw [ez68] at hP hD
        have hP : va_P (dC, dI) classes [(aO, .inr (0, [.ref aT, .ref aF, .int cw, .int ts, .ref a1, .ref a2, .ref a3, .ref a4, .ref a5])), (aT, .inl (cI, 8, .inl fT)), (aF, .inl (cL, 8, .inr (.inl fF))), (a2, .inr (1, [.int (b2i n2), .int p2, .long f2])), (a1, .inr (1, [.int (b2i z68.1), .int z68.2, .long (fF ia.toNatClampNeg)]))] H := hP
        have hD : va_D A [(aO, .inr (0, [.ref aT, .ref aF, .int cw, .int ts, .ref a1, .ref a2, .ref a3, .ref a4, .ref a5])), (aT, .inl (cI, 8, .inl fT)), (aF, .inl (cL, 8, .inr (.inl fF))), (a2, .inr (1, [.int (b2i n2), .int p2, .long f2])), (a1, .inr (1, [.int (b2i z68.1), .int z68.2, .long (fF ia.toNatClampNeg)]))] := hD
        refine lv_aload_n hx hb d_O_takeOperands_71 rfl (lv_at hl 3 rfl) ?_
        refine va_get (D := (dC, dI)) (ci := 0) (v := .ref a2) (C := R_O) (T := F_O) (N := 9) hx hb htA in_O hown hK hP 0 rfl rfl 5 (by decide) (htA _ k_105) (fun _ h9 => h9) rfl d_O_takeOperands_72 ?_
        refine lv_aload_n hx hb d_O_takeOperands_75 rfl (lv_at hl 3 rfl) ?_
        refine va_get (D := (dC, dI)) (ci := 0) (v := .ref aT) (C := R_O) (T := F_O) (N := 9) hx hb htA in_O hown hK hP 0 rfl rfl 0 (by decide) (htA _ k_201) (fun _ h9 => h9) rfl d_O_takeOperands_76 ?_
        refine lv_iload hx hb d_O_takeOperands_79 (lv_at hl 0 rfl) ?_
        refine va_iald hx hb hK hP 1 0 rfl rfl hb8 d_O_takeOperands_81 ?_
        refine lv_aload_n hx hb d_O_takeOperands_82 rfl (lv_at hl 3 rfl) ?_
        refine va_get (D := (dC, dI)) (ci := 0) (v := .ref aF) (C := R_O) (T := F_O) (N := 9) hx hb htA in_O hown hK hP 0 rfl rfl 1 (by decide) (htA _ k_202) (fun _ h9 => h9) rfl d_O_takeOperands_83 ?_
        refine lv_iload hx hb d_O_takeOperands_86 (lv_at hl 0 rfl) ?_
        refine va_lald hx hb hK hP 2 1 rfl rfl hb8 d_O_takeOperands_88 ?_
        have hPc := hP.sub (ws' := [(a2, .inr (1, [.int (b2i n2), .int p2, .long f2]))]) [3] rfl
        have hDc := hD.sub (ws' := [(a2, .inr (1, [.int (b2i n2), .int p2, .long f2]))]) [3] (by decide) rfl
        have hKc := hK.sub (tys' := []) [] rfl
        have hFc := va_free (wc := [(a2, .inr (1, [.int (b2i n2), .int p2, .long f2]))]) hD hS hA [3] rfl
        refine cc_v (va_runVN (As := [.int (fT ib.toNatClampNeg), .long (fF ib.toNatClampNeg)]) (rest := []) ⟨hx, hb, hml, hown, htA⟩ (c_R_take l dC dI a2 H.size n2 p2 f2 (fT ib.toNatClampNeg) (fF ib.toNatClampNeg)) ⟨va_cnB 2 htA (gi_code k_24) rfl rfl rfl (hnw _ n_26) (htA _ k_20) (by decide +kernel) ⟨Nat.le_of_ble_eq_true rfl, Nat.le_of_ble_eq_true rfl⟩, htA _ k_203, htA _ k_204⟩ (pre_V hnw hPc hKc hDc (ci := 1) (q0 := 0) rfl rfl) rfl rfl hl.1 rfl (lv_room (Nat.le_of_ble_eq_true rfl)) d_O_takeOperands_89 ⟨Nat.le_of_ble_eq_true rfl, Nat.le_of_ble_eq_true rfl⟩) hS hFc hP hD [3] [0, 1, 2, 4] (wr := [(aO, .inr (0, [.ref aT, .ref aF, .int cw, .int ts, .ref a1, .ref a2, .ref a3, .ref a4, .ref a5])), (aT, .inl (cI, 8, .inl fT)), (aF, .inl (cL, 8, .inr (.inl fF))), (a1, .inr (1, [.int (b2i z68.1), .int z68.2, .long (fF ia.toNatClampNeg)]))]) rfl rfl (by decide) (by decide) (fun H locs hP hD hS => ?_)
        obtain ⟨z89, ez89⟩ : ∃ z, g_R_take (fT ib.toNatClampNeg) = z := ⟨_, rfl⟩
        rw [ez89] at hP hD
        have hP : va_P (dC, dI) classes [(aO, .inr (0, [.ref aT, .ref aF, .int cw, .int ts, .ref a1, .ref a2, .ref a3, .ref a4, .ref a5])), (aT, .inl (cI, 8, .inl fT)), (aF, .inl (cL, 8, .inr (.inl fF))), (a1, .inr (1, [.int (b2i z68.1), .int z68.2, .long (fF ia.toNatClampNeg)])), (a2, .inr (1, [.int (b2i z89.1), .int z89.2, .long (fF ib.toNatClampNeg)]))] H := hP
        have hD : va_D A [(aO, .inr (0, [.ref aT, .ref aF, .int cw, .int ts, .ref a1, .ref a2, .ref a3, .ref a4, .ref a5])), (aT, .inl (cI, 8, .inl fT)), (aF, .inl (cL, 8, .inr (.inl fF))), (a1, .inr (1, [.int (b2i z68.1), .int z68.2, .long (fF ia.toNatClampNeg)])), (a2, .inr (1, [.int (b2i z89.1), .int z89.2, .long (fF ib.toNatClampNeg)]))] := hD
        have hE : g_O_takeOperands fT fF iop ia ib = (z68.1, z68.2, (fF ia.toNatClampNeg), z89.1, z89.2, (fF ib.toNatClampNeg)) := by clear hP hD hl hS; subst ez89; subst ez68; unfold g_O_takeOperands; (try dsimp only); rw [if_neg c_2, if_neg c_7, if_neg c_44]
        have hP9 : va_P (dC, dI) classes [(aO, .inr (0, [.ref aT, .ref aF, .int cw, .int ts, .ref a1, .ref a2, .ref a3, .ref a4, .ref a5])), (aT, .inl (cI, 8, .inl fT)), (aF, .inl (cL, 8, .inr (.inl fF))), (a1, .inr (1, [.int (b2i ((g_O_takeOperands fT fF iop ia ib).1)), .int ((g_O_takeOperands fT fF iop ia ib).2.1), .long ((g_O_takeOperands fT fF iop ia ib).2.2.1)])), (a2, .inr (1, [.int (b2i ((g_O_takeOperands fT fF iop ia ib).2.2.2.1)), .int ((g_O_takeOperands fT fF iop ia ib).2.2.2.2.1), .long ((g_O_takeOperands fT fF iop ia ib).2.2.2.2.2)]))] H := by rw [hE]; exact hP.sub [0, 1, 2, 3, 4] rfl
        have hD9 : va_D A [(aO, .inr (0, [.ref aT, .ref aF, .int cw, .int ts, .ref a1, .ref a2, .ref a3, .ref a4, .ref a5])), (aT, .inl (cI, 8, .inl fT)), (aF, .inl (cL, 8, .inr (.inl fF))), (a1, .inr (1, [.int (b2i ((g_O_takeOperands fT fF iop ia ib).1)), .int ((g_O_takeOperands fT fF iop ia ib).2.1), .long ((g_O_takeOperands fT fF iop ia ib).2.2.1)])), (a2, .inr (1, [.int (b2i ((g_O_takeOperands fT fF iop ia ib).2.2.2.1)), .int ((g_O_takeOperands fT fF iop ia ib).2.2.2.2.1), .long ((g_O_takeOperands fT fF iop ia ib).2.2.2.2.2)]))] := by rw [hE]; exact hD.sub [0, 1, 2, 3, 4] (by decide) rfl
        exact W.vret hx hb hr (fun t ht hW => ⟨⟨(), rfl, trivial, by rw [ht]; exact hP9, hD9⟩, hS.F ht⟩) hS.2.2 d_O_takeOperands_92
      · skip
        refine lv_iload_n hx hb d_O_takeOperands_47 rfl (lv_at hl 5 rfl) ?_
        refine lv_istore (lv' := [(6, .int ia), (5, .int ia), (4, .int 0), (0, .ref aO), (1, .int iop), (2, .int ia), (3, .int ib)]) hx hb d_O_takeOperands_48 hl (by decide) rfl (fun ls hl => ?_)
        refine lv_aload_n hx hb d_O_takeOperands_50 rfl (lv_at hl 3 rfl) ?_
        refine va_get (D := (dC, dI)) (ci := 0) (v := .ref a1) (C := R_O) (T := F_O) (N := 9) hx hb htA in_O hown hK hP 0 rfl rfl 4 (by decide) (htA _ k_104) (fun _ h9 => h9) rfl d_O_takeOperands_51 ?_
        refine lv_aload_n hx hb d_O_takeOperands_54 rfl (lv_at hl 3 rfl) ?_
        refine va_get (D := (dC, dI)) (ci := 0) (v := .ref aT) (C := R_O) (T := F_O) (N := 9) hx hb htA in_O hown hK hP 0 rfl rfl 0 (by decide) (htA _ k_201) (fun _ h9 => h9) rfl d_O_takeOperands_55 ?_
        refine lv_iload hx hb d_O_takeOperands_58 (lv_at hl 1 rfl) ?_
        refine va_iald hx hb hK hP 1 0 rfl rfl ha8 d_O_takeOperands_60 ?_
        refine lv_aload_n hx hb d_O_takeOperands_61 rfl (lv_at hl 3 rfl) ?_
        refine va_get (D := (dC, dI)) (ci := 0) (v := .ref aF) (C := R_O) (T := F_O) (N := 9) hx hb htA in_O hown hK hP 0 rfl rfl 1 (by decide) (htA _ k_202) (fun _ h9 => h9) rfl d_O_takeOperands_62 ?_
        refine lv_iload hx hb d_O_takeOperands_65 (lv_at hl 1 rfl) ?_
        refine va_lald hx hb hK hP 2 1 rfl rfl ha8 d_O_takeOperands_67 ?_
        have hPc := hP.sub (ws' := [(a1, .inr (1, [.int (b2i n1), .int p1, .long f1]))]) [3] rfl
        have hDc := hD.sub (ws' := [(a1, .inr (1, [.int (b2i n1), .int p1, .long f1]))]) [3] (by decide) rfl
        have hKc := hK.sub (tys' := []) [] rfl
        have hFc := va_free (wc := [(a1, .inr (1, [.int (b2i n1), .int p1, .long f1]))]) hD hS hA [3] rfl
        refine cc_v (va_runVN (As := [.int (fT ia.toNatClampNeg), .long (fF ia.toNatClampNeg)]) (rest := []) ⟨hx, hb, hml, hown, htA⟩ (c_R_take l dC dI a1 H.size n1 p1 f1 (fT ia.toNatClampNeg) (fF ia.toNatClampNeg)) ⟨va_cnB 2 htA (gi_code k_24) rfl rfl rfl (hnw _ n_26) (htA _ k_20) (by decide +kernel) ⟨Nat.le_of_ble_eq_true rfl, Nat.le_of_ble_eq_true rfl⟩, htA _ k_203, htA _ k_204⟩ (pre_V hnw hPc hKc hDc (ci := 1) (q0 := 0) rfl rfl) rfl rfl hl.1 rfl (lv_room (Nat.le_of_ble_eq_true rfl)) d_O_takeOperands_68 ⟨Nat.le_of_ble_eq_true rfl, Nat.le_of_ble_eq_true rfl⟩) hS hFc hP hD [3] [0, 1, 2, 4] (wr := [(aO, .inr (0, [.ref aT, .ref aF, .int cw, .int ts, .ref a1, .ref a2, .ref a3, .ref a4, .ref a5])), (aT, .inl (cI, 8, .inl fT)), (aF, .inl (cL, 8, .inr (.inl fF))), (a2, .inr (1, [.int (b2i n2), .int p2, .long f2]))]) rfl rfl (by decide) (by decide) (fun H locs hP hD hS => ?_)
        obtain ⟨z68, ez68⟩ : ∃ z, g_R_take (fT ia.toNatClampNeg) = z := ⟨_, rfl⟩
        rw [ez68] at hP hD
        have hP : va_P (dC, dI) classes [(aO, .inr (0, [.ref aT, .ref aF, .int cw, .int ts, .ref a1, .ref a2, .ref a3, .ref a4, .ref a5])), (aT, .inl (cI, 8, .inl fT)), (aF, .inl (cL, 8, .inr (.inl fF))), (a2, .inr (1, [.int (b2i n2), .int p2, .long f2])), (a1, .inr (1, [.int (b2i z68.1), .int z68.2, .long (fF ia.toNatClampNeg)]))] H := hP
        have hD : va_D A [(aO, .inr (0, [.ref aT, .ref aF, .int cw, .int ts, .ref a1, .ref a2, .ref a3, .ref a4, .ref a5])), (aT, .inl (cI, 8, .inl fT)), (aF, .inl (cL, 8, .inr (.inl fF))), (a2, .inr (1, [.int (b2i n2), .int p2, .long f2])), (a1, .inr (1, [.int (b2i z68.1), .int z68.2, .long (fF ia.toNatClampNeg)]))] := hD
        refine lv_aload_n hx hb d_O_takeOperands_71 rfl (lv_at hl 3 rfl) ?_
        refine va_get (D := (dC, dI)) (ci := 0) (v := .ref a2) (C := R_O) (T := F_O) (N := 9) hx hb htA in_O hown hK hP 0 rfl rfl 5 (by decide) (htA _ k_105) (fun _ h9 => h9) rfl d_O_takeOperands_72 ?_
        refine lv_aload_n hx hb d_O_takeOperands_75 rfl (lv_at hl 3 rfl) ?_
        refine va_get (D := (dC, dI)) (ci := 0) (v := .ref aT) (C := R_O) (T := F_O) (N := 9) hx hb htA in_O hown hK hP 0 rfl rfl 0 (by decide) (htA _ k_201) (fun _ h9 => h9) rfl d_O_takeOperands_76 ?_
        refine lv_iload hx hb d_O_takeOperands_79 (lv_at hl 0 rfl) ?_
        refine va_iald hx hb hK hP 1 0 rfl rfl ha8 d_O_takeOperands_81 ?_
        refine lv_aload_n hx hb d_O_takeOperands_82 rfl (lv_at hl 3 rfl) ?_
        refine va_get (D := (dC, dI)) (ci := 0) (v := .ref aF) (C := R_O) (T := F_O) (N := 9) hx hb htA in_O hown hK hP 0 rfl rfl 1 (by decide) (htA _ k_202) (fun _ h9 => h9) rfl d_O_takeOperands_83 ?_
        refine lv_iload hx hb d_O_takeOperands_86 (lv_at hl 0 rfl) ?_
        refine va_lald hx hb hK hP 2 1 rfl rfl ha8 d_O_takeOperands_88 ?_
        have hPc := hP.sub (ws' := [(a2, .inr (1, [.int (b2i n2), .int p2, .long f2]))]) [3] rfl
        have hDc := hD.sub (ws' := [(a2, .inr (1, [.int (b2i n2), .int p2, .long f2]))]) [3] (by decide) rfl
        have hKc := hK.sub (tys' := []) [] rfl
        have hFc := va_free (wc := [(a2, .inr (1, [.int (b2i n2), .int p2, .long f2]))]) hD hS hA [3] rfl
        refine cc_v (va_runVN (As := [.int (fT ia.toNatClampNeg), .long (fF ia.toNatClampNeg)]) (rest := []) ⟨hx, hb, hml, hown, htA⟩ (c_R_take l dC dI a2 H.size n2 p2 f2 (fT ia.toNatClampNeg) (fF ia.toNatClampNeg)) ⟨va_cnB 2 htA (gi_code k_24) rfl rfl rfl (hnw _ n_26) (htA _ k_20) (by decide +kernel) ⟨Nat.le_of_ble_eq_true rfl, Nat.le_of_ble_eq_true rfl⟩, htA _ k_203, htA _ k_204⟩ (pre_V hnw hPc hKc hDc (ci := 1) (q0 := 0) rfl rfl) rfl rfl hl.1 rfl (lv_room (Nat.le_of_ble_eq_true rfl)) d_O_takeOperands_89 ⟨Nat.le_of_ble_eq_true rfl, Nat.le_of_ble_eq_true rfl⟩) hS hFc hP hD [3] [0, 1, 2, 4] (wr := [(aO, .inr (0, [.ref aT, .ref aF, .int cw, .int ts, .ref a1, .ref a2, .ref a3, .ref a4, .ref a5])), (aT, .inl (cI, 8, .inl fT)), (aF, .inl (cL, 8, .inr (.inl fF))), (a1, .inr (1, [.int (b2i z68.1), .int z68.2, .long (fF ia.toNatClampNeg)]))]) rfl rfl (by decide) (by decide) (fun H locs hP hD hS => ?_)
        obtain ⟨z89, ez89⟩ : ∃ z, g_R_take (fT ia.toNatClampNeg) = z := ⟨_, rfl⟩
        rw [ez89] at hP hD
        have hP : va_P (dC, dI) classes [(aO, .inr (0, [.ref aT, .ref aF, .int cw, .int ts, .ref a1, .ref a2, .ref a3, .ref a4, .ref a5])), (aT, .inl (cI, 8, .inl fT)), (aF, .inl (cL, 8, .inr (.inl fF))), (a1, .inr (1, [.int (b2i z68.1), .int z68.2, .long (fF ia.toNatClampNeg)])), (a2, .inr (1, [.int (b2i z89.1), .int z89.2, .long (fF ia.toNatClampNeg)]))] H := hP
        have hD : va_D A [(aO, .inr (0, [.ref aT, .ref aF, .int cw, .int ts, .ref a1, .ref a2, .ref a3, .ref a4, .ref a5])), (aT, .inl (cI, 8, .inl fT)), (aF, .inl (cL, 8, .inr (.inl fF))), (a1, .inr (1, [.int (b2i z68.1), .int z68.2, .long (fF ia.toNatClampNeg)])), (a2, .inr (1, [.int (b2i z89.1), .int z89.2, .long (fF ia.toNatClampNeg)]))] := hD
        have hE : g_O_takeOperands fT fF iop ia ib = (z68.1, z68.2, (fF ia.toNatClampNeg), z89.1, z89.2, (fF ia.toNatClampNeg)) := by clear hP hD hl hS; subst ez89; subst ez68; unfold g_O_takeOperands; (try dsimp only); rw [if_neg c_2, if_neg c_7, if_pos c_44]
        have hP9 : va_P (dC, dI) classes [(aO, .inr (0, [.ref aT, .ref aF, .int cw, .int ts, .ref a1, .ref a2, .ref a3, .ref a4, .ref a5])), (aT, .inl (cI, 8, .inl fT)), (aF, .inl (cL, 8, .inr (.inl fF))), (a1, .inr (1, [.int (b2i ((g_O_takeOperands fT fF iop ia ib).1)), .int ((g_O_takeOperands fT fF iop ia ib).2.1), .long ((g_O_takeOperands fT fF iop ia ib).2.2.1)])), (a2, .inr (1, [.int (b2i ((g_O_takeOperands fT fF iop ia ib).2.2.2.1)), .int ((g_O_takeOperands fT fF iop ia ib).2.2.2.2.1), .long ((g_O_takeOperands fT fF iop ia ib).2.2.2.2.2)]))] H := by rw [hE]; exact hP.sub [0, 1, 2, 3, 4] rfl
        have hD9 : va_D A [(aO, .inr (0, [.ref aT, .ref aF, .int cw, .int ts, .ref a1, .ref a2, .ref a3, .ref a4, .ref a5])), (aT, .inl (cI, 8, .inl fT)), (aF, .inl (cL, 8, .inr (.inl fF))), (a1, .inr (1, [.int (b2i ((g_O_takeOperands fT fF iop ia ib).1)), .int ((g_O_takeOperands fT fF iop ia ib).2.1), .long ((g_O_takeOperands fT fF iop ia ib).2.2.1)])), (a2, .inr (1, [.int (b2i ((g_O_takeOperands fT fF iop ia ib).2.2.2.1)), .int ((g_O_takeOperands fT fF iop ia ib).2.2.2.2.1), .long ((g_O_takeOperands fT fF iop ia ib).2.2.2.2.2)]))] := by rw [hE]; exact hD.sub [0, 1, 2, 3, 4] (by decide) rfl
        exact W.vret hx hb hr (fun t ht hW => ⟨⟨(), rfl, trivial, by rw [ht]; exact hP9, hD9⟩, hS.F ht⟩) hS.2.2 d_O_takeOperands_92
    · skip
      refine lv_iconst (v := 1) hx hb d_O_takeOperands_10 (by decide) ?_
      refine lv_goto (tgt := 15) hx hb d_O_takeOperands_11 (by decide) ?_
      refine lv_istore (lv' := [(4, .int 1), (0, .ref aO), (1, .int iop), (2, .int ia), (3, .int ib)]) hx hb d_O_takeOperands_15 hl (by decide) rfl (fun ls hl => ?_)
      refine lv_iload hx hb d_O_takeOperands_17 (lv_at hl 0 rfl) ?_
      refine lv_if_eq (tgt := 26) hx hb d_O_takeOperands_19 (by decide) (fun c_19 => absurd c_19 (by decide)) (fun _ => ?_)
      refine lv_iload_n hx hb d_O_takeOperands_22 rfl (lv_at hl 4 rfl) ?_
      refine lv_goto (tgt := 27) hx hb d_O_takeOperands_23 (by decide) ?_
      refine lv_istore (lv' := [(5, .int ib), (4, .int 1), (0, .ref aO), (1, .int iop), (2, .int ia), (3, .int ib)]) hx hb d_O_takeOperands_27 hl (by decide) rfl (fun ls hl => ?_)
      refine lv_iload hx hb d_O_takeOperands_29 (lv_at hl 1 rfl) ?_
      refine lv_if_eq (tgt := 38) hx hb d_O_takeOperands_31 (by decide) (fun c_31 => absurd c_31 (by decide)) (fun _ => ?_)
      refine lv_iload_n hx hb d_O_takeOperands_34 rfl (lv_at hl 4 rfl) ?_
      refine lv_goto (tgt := 39) hx hb d_O_takeOperands_35 (by decide) ?_
      refine lv_istore (lv' := [(6, .int ia), (5, .int ib), (4, .int 1), (0, .ref aO), (1, .int iop), (2, .int ia), (3, .int ib)]) hx hb d_O_takeOperands_39 hl (by decide) rfl (fun ls hl => ?_)
      refine lv_iload_n hx hb d_O_takeOperands_41 rfl (lv_at hl 4 rfl) ?_
      refine lv_bipush (v := 6) hx hb d_O_takeOperands_42 (by decide) ?_
      refine lv_icmp_ne (tgt := 50) hx hb d_O_takeOperands_44 (by decide) (fun c_44 => ?_) (fun c_44 => ?_)
      · skip
        refine lv_aload_n hx hb d_O_takeOperands_50 rfl (lv_at hl 3 rfl) ?_
        refine va_get (D := (dC, dI)) (ci := 0) (v := .ref a1) (C := R_O) (T := F_O) (N := 9) hx hb htA in_O hown hK hP 0 rfl rfl 4 (by decide) (htA _ k_104) (fun _ h9 => h9) rfl d_O_takeOperands_51 ?_
        refine lv_aload_n hx hb d_O_takeOperands_54 rfl (lv_at hl 3 rfl) ?_
        refine va_get (D := (dC, dI)) (ci := 0) (v := .ref aT) (C := R_O) (T := F_O) (N := 9) hx hb htA in_O hown hK hP 0 rfl rfl 0 (by decide) (htA _ k_201) (fun _ h9 => h9) rfl d_O_takeOperands_55 ?_
        refine lv_iload hx hb d_O_takeOperands_58 (lv_at hl 1 rfl) ?_
        refine va_iald hx hb hK hP 1 0 rfl rfl hb8 d_O_takeOperands_60 ?_
        refine lv_aload_n hx hb d_O_takeOperands_61 rfl (lv_at hl 3 rfl) ?_
        refine va_get (D := (dC, dI)) (ci := 0) (v := .ref aF) (C := R_O) (T := F_O) (N := 9) hx hb htA in_O hown hK hP 0 rfl rfl 1 (by decide) (htA _ k_202) (fun _ h9 => h9) rfl d_O_takeOperands_62 ?_
        refine lv_iload hx hb d_O_takeOperands_65 (lv_at hl 1 rfl) ?_
        refine va_lald hx hb hK hP 2 1 rfl rfl hb8 d_O_takeOperands_67 ?_
        have hPc := hP.sub (ws' := [(a1, .inr (1, [.int (b2i n1), .int p1, .long f1]))]) [3] rfl
        have hDc := hD.sub (ws' := [(a1, .inr (1, [.int (b2i n1), .int p1, .long f1]))]) [3] (by decide) rfl
        have hKc := hK.sub (tys' := []) [] rfl
        have hFc := va_free (wc := [(a1, .inr (1, [.int (b2i n1), .int p1, .long f1]))]) hD hS hA [3] rfl
        refine cc_v (va_runVN (As := [.int (fT ib.toNatClampNeg), .long (fF ib.toNatClampNeg)]) (rest := []) ⟨hx, hb, hml, hown, htA⟩ (c_R_take l dC dI a1 H.size n1 p1 f1 (fT ib.toNatClampNeg) (fF ib.toNatClampNeg)) ⟨va_cnB 2 htA (gi_code k_24) rfl rfl rfl (hnw _ n_26) (htA _ k_20) (by decide +kernel) ⟨Nat.le_of_ble_eq_true rfl, Nat.le_of_ble_eq_true rfl⟩, htA _ k_203, htA _ k_204⟩ (pre_V hnw hPc hKc hDc (ci := 1) (q0 := 0) rfl rfl) rfl rfl hl.1 rfl (lv_room (Nat.le_of_ble_eq_true rfl)) d_O_takeOperands_68 ⟨Nat.le_of_ble_eq_true rfl, Nat.le_of_ble_eq_true rfl⟩) hS hFc hP hD [3] [0, 1, 2, 4] (wr := [(aO, .inr (0, [.ref aT, .ref aF, .int cw, .int ts, .ref a1, .ref a2, .ref a3, .ref a4, .ref a5])), (aT, .inl (cI, 8, .inl fT)), (aF, .inl (cL, 8, .inr (.inl fF))), (a2, .inr (1, [.int (b2i n2), .int p2, .long f2]))]) rfl rfl (by decide) (by decide) (fun H locs hP hD hS => ?_)
        obtain ⟨z68, ez68⟩ : ∃ z, g_R_take (fT ib.toNatClampNeg) = z := ⟨_, rfl⟩
        rw [ez68] at hP hD
        have hP : va_P (dC, dI) classes [(aO, .inr (0, [.ref aT, .ref aF, .int cw, .int ts, .ref a1, .ref a2, .ref a3, .ref a4, .ref a5])), (aT, .inl (cI, 8, .inl fT)), (aF, .inl (cL, 8, .inr (.inl fF))), (a2, .inr (1, [.int (b2i n2), .int p2, .long f2])), (a1, .inr (1, [.int (b2i z68.1), .int z68.2, .long (fF ib.toNatClampNeg)]))] H := hP
        have hD : va_D A [(aO, .inr (0, [.ref aT, .ref aF, .int cw, .int ts, .ref a1, .ref a2, .ref a3, .ref a4, .ref a5])), (aT, .inl (cI, 8, .inl fT)), (aF, .inl (cL, 8, .inr (.inl fF))), (a2, .inr (1, [.int (b2i n2), .int p2, .long f2])), (a1, .inr (1, [.int (b2i z68.1), .int z68.2, .long (fF ib.toNatClampNeg)]))] := hD
        refine lv_aload_n hx hb d_O_takeOperands_71 rfl (lv_at hl 3 rfl) ?_
        refine va_get (D := (dC, dI)) (ci := 0) (v := .ref a2) (C := R_O) (T := F_O) (N := 9) hx hb htA in_O hown hK hP 0 rfl rfl 5 (by decide) (htA _ k_105) (fun _ h9 => h9) rfl d_O_takeOperands_72 ?_
        refine lv_aload_n hx hb d_O_takeOperands_75 rfl (lv_at hl 3 rfl) ?_
        refine va_get (D := (dC, dI)) (ci := 0) (v := .ref aT) (C := R_O) (T := F_O) (N := 9) hx hb htA in_O hown hK hP 0 rfl rfl 0 (by decide) (htA _ k_201) (fun _ h9 => h9) rfl d_O_takeOperands_76 ?_
        refine lv_iload hx hb d_O_takeOperands_79 (lv_at hl 0 rfl) ?_
        refine va_iald hx hb hK hP 1 0 rfl rfl ha8 d_O_takeOperands_81 ?_
        refine lv_aload_n hx hb d_O_takeOperands_82 rfl (lv_at hl 3 rfl) ?_
        refine va_get (D := (dC, dI)) (ci := 0) (v := .ref aF) (C := R_O) (T := F_O) (N := 9) hx hb htA in_O hown hK hP 0 rfl rfl 1 (by decide) (htA _ k_202) (fun _ h9 => h9) rfl d_O_takeOperands_83 ?_
        refine lv_iload hx hb d_O_takeOperands_86 (lv_at hl 0 rfl) ?_
        refine va_lald hx hb hK hP 2 1 rfl rfl ha8 d_O_takeOperands_88 ?_
        have hPc := hP.sub (ws' := [(a2, .inr (1, [.int (b2i n2), .int p2, .long f2]))]) [3] rfl
        have hDc := hD.sub (ws' := [(a2, .inr (1, [.int (b2i n2), .int p2, .long f2]))]) [3] (by decide) rfl
        have hKc := hK.sub (tys' := []) [] rfl
        have hFc := va_free (wc := [(a2, .inr (1, [.int (b2i n2), .int p2, .long f2]))]) hD hS hA [3] rfl
        refine cc_v (va_runVN (As := [.int (fT ia.toNatClampNeg), .long (fF ia.toNatClampNeg)]) (rest := []) ⟨hx, hb, hml, hown, htA⟩ (c_R_take l dC dI a2 H.size n2 p2 f2 (fT ia.toNatClampNeg) (fF ia.toNatClampNeg)) ⟨va_cnB 2 htA (gi_code k_24) rfl rfl rfl (hnw _ n_26) (htA _ k_20) (by decide +kernel) ⟨Nat.le_of_ble_eq_true rfl, Nat.le_of_ble_eq_true rfl⟩, htA _ k_203, htA _ k_204⟩ (pre_V hnw hPc hKc hDc (ci := 1) (q0 := 0) rfl rfl) rfl rfl hl.1 rfl (lv_room (Nat.le_of_ble_eq_true rfl)) d_O_takeOperands_89 ⟨Nat.le_of_ble_eq_true rfl, Nat.le_of_ble_eq_true rfl⟩) hS hFc hP hD [3] [0, 1, 2, 4] (wr := [(aO, .inr (0, [.ref aT, .ref aF, .int cw, .int ts, .ref a1, .ref a2, .ref a3, .ref a4, .ref a5])), (aT, .inl (cI, 8, .inl fT)), (aF, .inl (cL, 8, .inr (.inl fF))), (a1, .inr (1, [.int (b2i z68.1), .int z68.2, .long (fF ib.toNatClampNeg)]))]) rfl rfl (by decide) (by decide) (fun H locs hP hD hS => ?_)
        obtain ⟨z89, ez89⟩ : ∃ z, g_R_take (fT ia.toNatClampNeg) = z := ⟨_, rfl⟩
        rw [ez89] at hP hD
        have hP : va_P (dC, dI) classes [(aO, .inr (0, [.ref aT, .ref aF, .int cw, .int ts, .ref a1, .ref a2, .ref a3, .ref a4, .ref a5])), (aT, .inl (cI, 8, .inl fT)), (aF, .inl (cL, 8, .inr (.inl fF))), (a1, .inr (1, [.int (b2i z68.1), .int z68.2, .long (fF ib.toNatClampNeg)])), (a2, .inr (1, [.int (b2i z89.1), .int z89.2, .long (fF ia.toNatClampNeg)]))] H := hP
        have hD : va_D A [(aO, .inr (0, [.ref aT, .ref aF, .int cw, .int ts, .ref a1, .ref a2, .ref a3, .ref a4, .ref a5])), (aT, .inl (cI, 8, .inl fT)), (aF, .inl (cL, 8, .inr (.inl fF))), (a1, .inr (1, [.int (b2i z68.1), .int z68.2, .long (fF ib.toNatClampNeg)])), (a2, .inr (1, [.int (b2i z89.1), .int z89.2, .long (fF ia.toNatClampNeg)]))] := hD
        have hE : g_O_takeOperands fT fF iop ia ib = (z68.1, z68.2, (fF ib.toNatClampNeg), z89.1, z89.2, (fF ia.toNatClampNeg)) := by clear hP hD hl hS; subst ez89; subst ez68; unfold g_O_takeOperands; (try dsimp only); rw [if_neg c_2, if_pos c_7, if_neg c_44]
        have hP9 : va_P (dC, dI) classes [(aO, .inr (0, [.ref aT, .ref aF, .int cw, .int ts, .ref a1, .ref a2, .ref a3, .ref a4, .ref a5])), (aT, .inl (cI, 8, .inl fT)), (aF, .inl (cL, 8, .inr (.inl fF))), (a1, .inr (1, [.int (b2i ((g_O_takeOperands fT fF iop ia ib).1)), .int ((g_O_takeOperands fT fF iop ia ib).2.1), .long ((g_O_takeOperands fT fF iop ia ib).2.2.1)])), (a2, .inr (1, [.int (b2i ((g_O_takeOperands fT fF iop ia ib).2.2.2.1)), .int ((g_O_takeOperands fT fF iop ia ib).2.2.2.2.1), .long ((g_O_takeOperands fT fF iop ia ib).2.2.2.2.2)]))] H := by rw [hE]; exact hP.sub [0, 1, 2, 3, 4] rfl
        have hD9 : va_D A [(aO, .inr (0, [.ref aT, .ref aF, .int cw, .int ts, .ref a1, .ref a2, .ref a3, .ref a4, .ref a5])), (aT, .inl (cI, 8, .inl fT)), (aF, .inl (cL, 8, .inr (.inl fF))), (a1, .inr (1, [.int (b2i ((g_O_takeOperands fT fF iop ia ib).1)), .int ((g_O_takeOperands fT fF iop ia ib).2.1), .long ((g_O_takeOperands fT fF iop ia ib).2.2.1)])), (a2, .inr (1, [.int (b2i ((g_O_takeOperands fT fF iop ia ib).2.2.2.1)), .int ((g_O_takeOperands fT fF iop ia ib).2.2.2.2.1), .long ((g_O_takeOperands fT fF iop ia ib).2.2.2.2.2)]))] := by rw [hE]; exact hD.sub [0, 1, 2, 3, 4] (by decide) rfl
        exact W.vret hx hb hr (fun t ht hW => ⟨⟨(), rfl, trivial, by rw [ht]; exact hP9, hD9⟩, hS.F ht⟩) hS.2.2 d_O_takeOperands_92
      · skip
        refine lv_iload_n hx hb d_O_takeOperands_47 rfl (lv_at hl 5 rfl) ?_
        refine lv_istore (lv' := [(6, .int ia), (5, .int ib), (4, .int 1), (0, .ref aO), (1, .int iop), (2, .int ia), (3, .int ib)]) hx hb d_O_takeOperands_48 hl (by decide) rfl (fun ls hl => ?_)
        refine lv_aload_n hx hb d_O_takeOperands_50 rfl (lv_at hl 3 rfl) ?_
        refine va_get (D := (dC, dI)) (ci := 0) (v := .ref a1) (C := R_O) (T := F_O) (N := 9) hx hb htA in_O hown hK hP 0 rfl rfl 4 (by decide) (htA _ k_104) (fun _ h9 => h9) rfl d_O_takeOperands_51 ?_
        refine lv_aload_n hx hb d_O_takeOperands_54 rfl (lv_at hl 3 rfl) ?_
        refine va_get (D := (dC, dI)) (ci := 0) (v := .ref aT) (C := R_O) (T := F_O) (N := 9) hx hb htA in_O hown hK hP 0 rfl rfl 0 (by decide) (htA _ k_201) (fun _ h9 => h9) rfl d_O_takeOperands_55 ?_
        refine lv_iload hx hb d_O_takeOperands_58 (lv_at hl 1 rfl) ?_
        refine va_iald hx hb hK hP 1 0 rfl rfl hb8 d_O_takeOperands_60 ?_
        refine lv_aload_n hx hb d_O_takeOperands_61 rfl (lv_at hl 3 rfl) ?_
        refine va_get (D := (dC, dI)) (ci := 0) (v := .ref aF) (C := R_O) (T := F_O) (N := 9) hx hb htA in_O hown hK hP 0 rfl rfl 1 (by decide) (htA _ k_202) (fun _ h9 => h9) rfl d_O_takeOperands_62 ?_
        refine lv_iload hx hb d_O_takeOperands_65 (lv_at hl 1 rfl) ?_
        refine va_lald hx hb hK hP 2 1 rfl rfl hb8 d_O_takeOperands_67 ?_
        have hPc := hP.sub (ws' := [(a1, .inr (1, [.int (b2i n1), .int p1, .long f1]))]) [3] rfl
        have hDc := hD.sub (ws' := [(a1, .inr (1, [.int (b2i n1), .int p1, .long f1]))]) [3] (by decide) rfl
        have hKc := hK.sub (tys' := []) [] rfl
        have hFc := va_free (wc := [(a1, .inr (1, [.int (b2i n1), .int p1, .long f1]))]) hD hS hA [3] rfl
        refine cc_v (va_runVN (As := [.int (fT ib.toNatClampNeg), .long (fF ib.toNatClampNeg)]) (rest := []) ⟨hx, hb, hml, hown, htA⟩ (c_R_take l dC dI a1 H.size n1 p1 f1 (fT ib.toNatClampNeg) (fF ib.toNatClampNeg)) ⟨va_cnB 2 htA (gi_code k_24) rfl rfl rfl (hnw _ n_26) (htA _ k_20) (by decide +kernel) ⟨Nat.le_of_ble_eq_true rfl, Nat.le_of_ble_eq_true rfl⟩, htA _ k_203, htA _ k_204⟩ (pre_V hnw hPc hKc hDc (ci := 1) (q0 := 0) rfl rfl) rfl rfl hl.1 rfl (lv_room (Nat.le_of_ble_eq_true rfl)) d_O_takeOperands_68 ⟨Nat.le_of_ble_eq_true rfl, Nat.le_of_ble_eq_true rfl⟩) hS hFc hP hD [3] [0, 1, 2, 4] (wr := [(aO, .inr (0, [.ref aT, .ref aF, .int cw, .int ts, .ref a1, .ref a2, .ref a3, .ref a4, .ref a5])), (aT, .inl (cI, 8, .inl fT)), (aF, .inl (cL, 8, .inr (.inl fF))), (a2, .inr (1, [.int (b2i n2), .int p2, .long f2]))]) rfl rfl (by decide) (by decide) (fun H locs hP hD hS => ?_)
        obtain ⟨z68, ez68⟩ : ∃ z, g_R_take (fT ib.toNatClampNeg) = z := ⟨_, rfl⟩
        rw [ez68] at hP hD
        have hP : va_P (dC, dI) classes [(aO, .inr (0, [.ref aT, .ref aF, .int cw, .int ts, .ref a1, .ref a2, .ref a3, .ref a4, .ref a5])), (aT, .inl (cI, 8, .inl fT)), (aF, .inl (cL, 8, .inr (.inl fF))), (a2, .inr (1, [.int (b2i n2), .int p2, .long f2])), (a1, .inr (1, [.int (b2i z68.1), .int z68.2, .long (fF ib.toNatClampNeg)]))] H := hP
        have hD : va_D A [(aO, .inr (0, [.ref aT, .ref aF, .int cw, .int ts, .ref a1, .ref a2, .ref a3, .ref a4, .ref a5])), (aT, .inl (cI, 8, .inl fT)), (aF, .inl (cL, 8, .inr (.inl fF))), (a2, .inr (1, [.int (b2i n2), .int p2, .long f2])), (a1, .inr (1, [.int (b2i z68.1), .int z68.2, .long (fF ib.toNatClampNeg)]))] := hD
        refine lv_aload_n hx hb d_O_takeOperands_71 rfl (lv_at hl 3 rfl) ?_
        refine va_get (D := (dC, dI)) (ci := 0) (v := .ref a2) (C := R_O) (T := F_O) (N := 9) hx hb htA in_O hown hK hP 0 rfl rfl 5 (by decide) (htA _ k_105) (fun _ h9 => h9) rfl d_O_takeOperands_72 ?_
        refine lv_aload_n hx hb d_O_takeOperands_75 rfl (lv_at hl 3 rfl) ?_
        refine va_get (D := (dC, dI)) (ci := 0) (v := .ref aT) (C := R_O) (T := F_O) (N := 9) hx hb htA in_O hown hK hP 0 rfl rfl 0 (by decide) (htA _ k_201) (fun _ h9 => h9) rfl d_O_takeOperands_76 ?_
        refine lv_iload hx hb d_O_takeOperands_79 (lv_at hl 0 rfl) ?_
        refine va_iald hx hb hK hP 1 0 rfl rfl ha8 d_O_takeOperands_81 ?_
        refine lv_aload_n hx hb d_O_takeOperands_82 rfl (lv_at hl 3 rfl) ?_
        refine va_get (D := (dC, dI)) (ci := 0) (v := .ref aF) (C := R_O) (T := F_O) (N := 9) hx hb htA in_O hown hK hP 0 rfl rfl 1 (by decide) (htA _ k_202) (fun _ h9 => h9) rfl d_O_takeOperands_83 ?_
        refine lv_iload hx hb d_O_takeOperands_86 (lv_at hl 0 rfl) ?_
        refine va_lald hx hb hK hP 2 1 rfl rfl ha8 d_O_takeOperands_88 ?_
        have hPc := hP.sub (ws' := [(a2, .inr (1, [.int (b2i n2), .int p2, .long f2]))]) [3] rfl
        have hDc := hD.sub (ws' := [(a2, .inr (1, [.int (b2i n2), .int p2, .long f2]))]) [3] (by decide) rfl
        have hKc := hK.sub (tys' := []) [] rfl
        have hFc := va_free (wc := [(a2, .inr (1, [.int (b2i n2), .int p2, .long f2]))]) hD hS hA [3] rfl
        refine cc_v (va_runVN (As := [.int (fT ia.toNatClampNeg), .long (fF ia.toNatClampNeg)]) (rest := []) ⟨hx, hb, hml, hown, htA⟩ (c_R_take l dC dI a2 H.size n2 p2 f2 (fT ia.toNatClampNeg) (fF ia.toNatClampNeg)) ⟨va_cnB 2 htA (gi_code k_24) rfl rfl rfl (hnw _ n_26) (htA _ k_20) (by decide +kernel) ⟨Nat.le_of_ble_eq_true rfl, Nat.le_of_ble_eq_true rfl⟩, htA _ k_203, htA _ k_204⟩ (pre_V hnw hPc hKc hDc (ci := 1) (q0 := 0) rfl rfl) rfl rfl hl.1 rfl (lv_room (Nat.le_of_ble_eq_true rfl)) d_O_takeOperands_89 ⟨Nat.le_of_ble_eq_true rfl, Nat.le_of_ble_eq_true rfl⟩) hS hFc hP hD [3] [0, 1, 2, 4] (wr := [(aO, .inr (0, [.ref aT, .ref aF, .int cw, .int ts, .ref a1, .ref a2, .ref a3, .ref a4, .ref a5])), (aT, .inl (cI, 8, .inl fT)), (aF, .inl (cL, 8, .inr (.inl fF))), (a1, .inr (1, [.int (b2i z68.1), .int z68.2, .long (fF ib.toNatClampNeg)]))]) rfl rfl (by decide) (by decide) (fun H locs hP hD hS => ?_)
        obtain ⟨z89, ez89⟩ : ∃ z, g_R_take (fT ia.toNatClampNeg) = z := ⟨_, rfl⟩
        rw [ez89] at hP hD
        have hP : va_P (dC, dI) classes [(aO, .inr (0, [.ref aT, .ref aF, .int cw, .int ts, .ref a1, .ref a2, .ref a3, .ref a4, .ref a5])), (aT, .inl (cI, 8, .inl fT)), (aF, .inl (cL, 8, .inr (.inl fF))), (a1, .inr (1, [.int (b2i z68.1), .int z68.2, .long (fF ib.toNatClampNeg)])), (a2, .inr (1, [.int (b2i z89.1), .int z89.2, .long (fF ia.toNatClampNeg)]))] H := hP
        have hD : va_D A [(aO, .inr (0, [.ref aT, .ref aF, .int cw, .int ts, .ref a1, .ref a2, .ref a3, .ref a4, .ref a5])), (aT, .inl (cI, 8, .inl fT)), (aF, .inl (cL, 8, .inr (.inl fF))), (a1, .inr (1, [.int (b2i z68.1), .int z68.2, .long (fF ib.toNatClampNeg)])), (a2, .inr (1, [.int (b2i z89.1), .int z89.2, .long (fF ia.toNatClampNeg)]))] := hD
        have hE : g_O_takeOperands fT fF iop ia ib = (z68.1, z68.2, (fF ib.toNatClampNeg), z89.1, z89.2, (fF ia.toNatClampNeg)) := by clear hP hD hl hS; subst ez89; subst ez68; unfold g_O_takeOperands; (try dsimp only); rw [if_neg c_2, if_pos c_7, if_pos c_44]
        have hP9 : va_P (dC, dI) classes [(aO, .inr (0, [.ref aT, .ref aF, .int cw, .int ts, .ref a1, .ref a2, .ref a3, .ref a4, .ref a5])), (aT, .inl (cI, 8, .inl fT)), (aF, .inl (cL, 8, .inr (.inl fF))), (a1, .inr (1, [.int (b2i ((g_O_takeOperands fT fF iop ia ib).1)), .int ((g_O_takeOperands fT fF iop ia ib).2.1), .long ((g_O_takeOperands fT fF iop ia ib).2.2.1)])), (a2, .inr (1, [.int (b2i ((g_O_takeOperands fT fF iop ia ib).2.2.2.1)), .int ((g_O_takeOperands fT fF iop ia ib).2.2.2.2.1), .long ((g_O_takeOperands fT fF iop ia ib).2.2.2.2.2)]))] H := by rw [hE]; exact hP.sub [0, 1, 2, 3, 4] rfl
        have hD9 : va_D A [(aO, .inr (0, [.ref aT, .ref aF, .int cw, .int ts, .ref a1, .ref a2, .ref a3, .ref a4, .ref a5])), (aT, .inl (cI, 8, .inl fT)), (aF, .inl (cL, 8, .inr (.inl fF))), (a1, .inr (1, [.int (b2i ((g_O_takeOperands fT fF iop ia ib).1)), .int ((g_O_takeOperands fT fF iop ia ib).2.1), .long ((g_O_takeOperands fT fF iop ia ib).2.2.1)])), (a2, .inr (1, [.int (b2i ((g_O_takeOperands fT fF iop ia ib).2.2.2.1)), .int ((g_O_takeOperands fT fF iop ia ib).2.2.2.2.1), .long ((g_O_takeOperands fT fF iop ia ib).2.2.2.2.2)]))] := by rw [hE]; exact hD.sub [0, 1, 2, 3, 4] (by decide) rfl
        exact W.vret hx hb hr (fun t ht hW => ⟨⟨(), rfl, trivial, by rw [ht]; exact hP9, hD9⟩, hS.F ht⟩) hS.2.2 d_O_takeOperands_92
theorem d_O_control_0 : decode b_O_control 0 = .ok (.iload_n 1, 1) := by decide +kernel
theorem d_O_control_1 : decode b_O_control 1 = .ok (.invokestatic 47, 3) := by decide +kernel
theorem d_O_control_4 : decode b_O_control 4 = .ok (.ifCond .ne 13, 3) := by decide +kernel
theorem d_O_control_17 : decode b_O_control 17 = .ok (.aload_n 0, 1) := by decide +kernel
theorem d_O_control_18 : decode b_O_control 18 = .ok (.iload_n 1, 1) := by decide +kernel
theorem d_O_control_19 : decode b_O_control 19 = .ok (.putfield 17, 3) := by decide +kernel
theorem d_O_control_22 : decode b_O_control 22 = .ok (.return_, 1) := by decide +kernel
theorem d_O_control_7 : decode b_O_control 7 = .ok (.new 51, 3) := by decide +kernel
theorem d_O_control_10 : decode b_O_control 10 = .ok (.dup, 1) := by decide +kernel
theorem d_O_control_11 : decode b_O_control 11 = .ok (.ldc 53, 2) := by decide +kernel
theorem d_O_control_13 : decode b_O_control 13 = .ok (.invokespecial 55, 3) := by decide +kernel
theorem d_O_control_16 : decode b_O_control 16 = .ok (.athrow, 1) := by decide +kernel
set_option maxHeartbeats 4000000 in
set_option maxRecDepth 100000 in
theorem c_O_control (l : Launch) (hl9 : l.stackTraces = false) (dC : Nat → ClassId) (dI : Nat → Nat → Nat) (aO : Nat) (aT : Nat) (aF : Nat) (a1 : Nat) (a2 : Nat) (a3 : Nat) (a4 : Nat) (a5 : Nat) (sz : Nat) (cw : Int32) (ts : Int32) (iw : Int32) : vx_Met l y_O_control w_O_control ({ frames := 6, cells := 1, slots := 6, locals := 110 }) (cPx (dC, dI) [] [.ref aO, .int iw] [(aO, .inr (0, [.ref aT, .ref aF, .int cw, .int ts, .ref a1, .ref a2, .ref a3, .ref a4, .ref a5]))] sz) (va_Qv (fun (_ : Unit) => x_O_control iw = 0) (fun _ t => va_P (dC, dI) classes [(aO, .inr (0, [.ref aT, .ref aF, .int (g_O_control cw iw), .int ts, .ref a1, .ref a2, .ref a3, .ref a4, .ref a5]))] t.heap ∧ va_D (va_A [(aO, .inr (0, [.ref aT, .ref aF, .int cw, .int ts, .ref a1, .ref a2, .ref a3, .ref a4, .ref a5]))] sz) [(aO, .inr (0, [.ref aT, .ref aF, .int (g_O_control cw iw), .int ts, .ref a1, .ref a2, .ref a3, .ref a4, .ref a5]))]) (va_A [(aO, .inr (0, [.ref aT, .ref aF, .int cw, .int ts, .ref a1, .ref a2, .ref a3, .ref a4, .ref a5]))] sz)) (vx_X (fun (_ : Unit) => True) (fun E _ t => ((x_O_control iw = 1 ∧ E = "java/lang/IndexOutOfBoundsException") ∨ (x_O_control iw = 2 ∧ E = "java/lang/IllegalArgumentException")) ∧ va_P (dC, dI) classes [(aO, .inr (0, [.ref aT, .ref aF, .int cw, .int ts, .ref a1, .ref a2, .ref a3, .ref a4, .ref a5]))] t.heap ∧ va_D (va_A [(aO, .inr (0, [.ref aT, .ref aF, .int cw, .int ts, .ref a1, .ref a2, .ref a3, .ref a4, .ref a5]))] sz) [(aO, .inr (0, [.ref aT, .ref aF, .int cw, .int ts, .ref a1, .ref a2, .ref a3, .ref a4, .ref a5]))]) (va_A [(aO, .inr (0, [.ref aT, .ref aF, .int cw, .int ts, .ref a1, .ref a2, .ref a3, .ref a4, .ref a5]))] sz)) 1 6 (va_A [(aO, .inr (0, [.ref aT, .ref aF, .int cw, .int ts, .ref a1, .ref a2, .ref a3, .ref a4, .ref a5]))] sz) := by
  refine vx_ofW (cc := b_O_control) (maxL := 2) (ret := none) (by decide) rfl ?_
  intro p e s m args below meth c s₁ B hml htab hv
  obtain ⟨rfl, hsz, hP, hK, hD0, hnw, hZU, hZN, hsw⟩ := hv
  have hx := B.exec
  have hb := B.bytes
  have hr := B.returns
  have hts := atoms_spec (ws := w_O_control) B.pre
  have htA : ∀ w ∈ wAll, w.before _ s = true := fun w h => hts w (List.mem_cons_of_mem _ h)
  have hown : s.vm.findClass R_O = some m.cls := findClass_of_methodNamed B.named
  have hlocks := B.notSynchronized
  subst hsz
  have hD := hD0.self (sz := s.heap.size)
  generalize hAe : va_A [(aO, .inr (0, [.ref aT, .ref aF, .int cw, .int ts, .ref a1, .ref a2, .ref a3, .ref a4, .ref a5]))] s.heap.size = A at hD hZU hZN ⊢
  have hA : ∀ q : Nat, s.heap.size ≤ q → A q := fun q h => by rw [← hAe]; exact Or.inr h
  have hS : va_S A s.heap s.heap [] := va_S.rf
  have hP : va_P (dC, dI) classes [(aO, .inr (0, [.ref aT, .ref aF, .int cw, .int ts, .ref a1, .ref a2, .ref a3, .ref a4, .ref a5]))] s.heap := hP
  obtain ⟨H, eH⟩ : ∃ z, z = s.heap := ⟨_, rfl⟩
  rw [← eH] at hP
  have hS : va_S A s.heap H [] := by rw [eH]; exact hS
  rw [← eH]
  generalize ([] : List Loc) = locs at hS ⊢
  have hl := lv_entry ([.ref aO, .int iw]) (n := 2) (Nat.le_of_ble_eq_true rfl)
  rw [lg_entry_eq]
  generalize (lg_sl ([.ref aO, .int iw]) ++ List.replicate (2 - (lg_sl ([.ref aO, .int iw])).length) Slot.unset).toArray = ls at hl ⊢
  have hl : lv_has ls 2 [(0, .ref aO), (1, .int iw)] := hl
  refine lv_iload_n hx hb d_O_control_0 rfl (lv_at hl 1 rfl) ?_
  have hPc := hP.sub (ws' := []) [] rfl
  have hDc := hD.sub (ws' := []) [] (by decide) rfl
  have hKc := hK.sub (tys' := []) [] rfl
  have hFc := va_free (wc := []) hD hS hA [] rfl
  refine cc_i (va_runS (As := [.int iw]) (rest := []) ⟨hx, hb, hml, hown, htA⟩ (c_O_hasSixteenBits l dC dI H.size iw) (va_cwS 1 htA (gi_S k_206 k_207 k_90 (gi_code k_88)) rfl rfl rfl (by decide +kernel) ⟨Nat.le_of_ble_eq_true rfl, Nat.le_of_ble_eq_true rfl⟩) (pre_S hnw hPc hKc hDc) rfl rfl hl.1 rfl (lv_room (Nat.le_of_ble_eq_true rfl)) d_O_control_1 ⟨Nat.le_of_ble_eq_true rfl, Nat.le_of_ble_eq_true rfl⟩) hS hFc hP hD [] [0] (wr := [(aO, .inr (0, [.ref aT, .ref aF, .int cw, .int ts, .ref a1, .ref a2, .ref a3, .ref a4, .ref a5]))]) rfl rfl (by decide) (by decide) (fun H locs hP hD hS => ?_)
  have hP : va_P (dC, dI) classes [(aO, .inr (0, [.ref aT, .ref aF, .int cw, .int ts, .ref a1, .ref a2, .ref a3, .ref a4, .ref a5]))] H := hP
  have hD : va_D A [(aO, .inr (0, [.ref aT, .ref aF, .int cw, .int ts, .ref a1, .ref a2, .ref a3, .ref a4, .ref a5]))] := hD
  refine lv_if_ne (tgt := 17) hx hb d_O_control_4 (by decide) (fun c_4 => ?_) (fun c_4 => ?_)
  · skip
    have c_4 : (g_O_hasSixteenBits iw) = true := b2i_nz c_4
    refine lv_aload_n hx hb d_O_control_17 rfl (lv_at hl 0 rfl) ?_
    refine lv_iload_n hx hb d_O_control_18 rfl (lv_at hl 1 rfl) ?_
    refine va_put (D := (dC, dI)) (ci := 0) (v := .int iw) (ty := .int) (C := R_O) (T := F_O) (N := 9) hx hb htA in_O t_O t_O_ok n_O hown hK hP hD hS 0 rfl rfl 2 (by decide) (htA _ k_95) (fun _ h9 => h9) rfl (by decide +kernel) rfl rfl (Nat.le_of_ble_eq_true rfl) d_O_control_19 (fun H locs hP hD hS => ?_)
    have hP : va_P (dC, dI) classes [(aO, .inr (0, [.ref aT, .ref aF, .int iw, .int ts, .ref a1, .ref a2, .ref a3, .ref a4, .ref a5]))] H := hP
    have hD : va_D A [(aO, .inr (0, [.ref aT, .ref aF, .int iw, .int ts, .ref a1, .ref a2, .ref a3, .ref a4, .ref a5]))] := hD
    have hE : g_O_control cw iw = (iw) := by clear hP hD hl hS; unfold g_O_control; (try dsimp only); rw [if_pos c_4]
    have hP9 : va_P (dC, dI) classes [(aO, .inr (0, [.ref aT, .ref aF, .int (g_O_control cw iw), .int ts, .ref a1, .ref a2, .ref a3, .ref a4, .ref a5]))] H := by rw [hE]; exact hP.sub [0] rfl
    have hD9 : va_D A [(aO, .inr (0, [.ref aT, .ref aF, .int (g_O_control cw iw), .int ts, .ref a1, .ref a2, .ref a3, .ref a4, .ref a5]))] := by rw [hE]; exact hD.sub [0] (by decide) rfl
    have hE0 : x_O_control iw = 0 := by clear hP hD hl hS; unfold x_O_control; (try dsimp only); rw [if_pos c_4]
    refine vx_ret ?_
    refine W.widen (k := 1) (n := 6) (Nat.le_of_ble_eq_true rfl) (Nat.le_of_ble_eq_true rfl) ?_
    exact W.vret hx hb hr (fun t ht hW => ⟨⟨(), rfl, hE0, by rw [ht]; exact hP9, hD9⟩, hS.F ht⟩) hS.2.2 d_O_control_22
  · skip
    have c_4 : ¬ (g_O_hasSixteenBits iw) = true := b2i_z c_4
    obtain ⟨sa, hstr⟩ := hsw _ s_0
    have hE : x_O_control iw = 2 := by clear hP hD hl hS; unfold x_O_control; (try dsimp only); rw [if_neg c_4]
    have hP9 : va_P (dC, dI) classes [(aO, .inr (0, [.ref aT, .ref aF, .int cw, .int ts, .ref a1, .ref a2, .ref a3, .ref a4, .ref a5]))] H := hP.sub [0] rfl
    have hD9 : va_D A [(aO, .inr (0, [.ref aT, .ref aF, .int cw, .int ts, .ref a1, .ref a2, .ref a3, .ref a4, .ref a5]))] := hD.sub [0] (by decide) rfl
    exact vx_throwS (own := R_O) (cls := "java/lang/IllegalArgumentException") (names := ["java/lang/RuntimeException", "java/lang/Exception"]) hx hb hl9 hown (by decide +kernel) (by decide +kernel) (htA _ k_208) (htA _ k_209) hstr (vx_hat (L := vx_atS R_O 55 "java/lang/IllegalArgumentException" ["java/lang/RuntimeException", "java/lang/Exception"]) (B := [.castable "java/lang/IllegalArgumentException" "java/lang/IllegalArgumentException", .declares ⟨"java/lang/RuntimeException", "<init>", "(Ljava/lang/String;)V"⟩, .declares ⟨"java/lang/Exception", "<init>", "(Ljava/lang/String;)V"⟩, .declares ⟨"java/lang/Throwable", "<init>", "(Ljava/lang/String;)V"⟩]) (fun w hw => htA w (hat_0 w hw)) (by decide +kernel) (vx_c (va_Nw.use rfl (hnw _ n_27)) (vx_c (va_Nw.use rfl (hnw _ n_28)) (vx_c (va_Nw.use rfl (hnw _ n_29)) (vx_c (va_Nw.use rfl (hnw _ n_30)) vx_n))))) (by decide +kernel) hZU hZN hS (hl.1.trans hml.symm) d_O_control_7 d_O_control_10 d_O_control_11 d_O_control_13 d_O_control_16 (fun x hx9 => (htab x hx9).elim) (Nat.le_of_ble_eq_true rfl) (Nat.le_of_ble_eq_true rfl) (Nat.le_of_ble_eq_true rfl) (Nat.le_of_ble_eq_true rfl) hlocks (fun t ha hsz hk => ⟨(), trivial, ⟨Or.inr ⟨hE, rfl⟩, hP9.kept (fun k q hq => hk q.1 (hP9 k q hq).lt), hD9⟩, Nat.le_trans hS.1 hsz, fun q h1 h2 => (hk q (Nat.lt_of_lt_of_le h1 hS.1)).trans (hS.2.1 q h1 h2)⟩) hS.2.2 (Nat.le_of_ble_eq_true rfl) (Nat.le_of_ble_eq_true rfl)
theorem d_O_set_0 : decode b_O_set 0 = .ok (.iload_n 1, 1) := by decide +kernel
theorem d_O_set_1 : decode b_O_set 1 = .ok (.invokestatic 58, 3) := by decide +kernel
theorem d_O_set_4 : decode b_O_set 4 = .ok (.ifCond .ne 13, 3) := by decide +kernel
theorem d_O_set_17 : decode b_O_set 17 = .ok (.iload_n 2, 1) := by decide +kernel
theorem d_O_set_18 : decode b_O_set 18 = .ok (.invokestatic 47, 3) := by decide +kernel
theorem d_O_set_21 : decode b_O_set 21 = .ok (.ifCond .ne 13, 3) := by decide +kernel
theorem d_O_set_34 : decode b_O_set 34 = .ok (.aload_n 0, 1) := by decide +kernel
theorem d_O_set_35 : decode b_O_set 35 = .ok (.getfield 9, 3) := by decide +kernel
theorem d_O_set_38 : decode b_O_set 38 = .ok (.iload_n 1, 1) := by decide +kernel
theorem d_O_set_39 : decode b_O_set 39 = .ok (.iload_n 2, 1) := by decide +kernel
theorem d_O_set_40 : decode b_O_set 40 = .ok (.iastore, 1) := by decide +kernel
theorem d_O_set_41 : decode b_O_set 41 = .ok (.aload_n 0, 1) := by decide +kernel
theorem d_O_set_42 : decode b_O_set 42 = .ok (.getfield 13, 3) := by decide +kernel
theorem d_O_set_45 : decode b_O_set 45 = .ok (.iload_n 1, 1) := by decide +kernel
theorem d_O_set_46 : decode b_O_set 46 = .ok (.iload_n 3, 1) := by decide +kernel
theorem d_O_set_47 : decode b_O_set 47 = .ok (.i2l, 1) := by decide +kernel
theorem d_O_set_48 : decode b_O_set 48 = .ok (.bipush 32, 2) := by decide +kernel
theorem d_O_set_50 : decode b_O_set 50 = .ok (.lshl, 1) := by decide +kernel
theorem d_O_set_51 : decode b_O_set 51 = .ok (.iload 4, 2) := by decide +kernel
theorem d_O_set_53 : decode b_O_set 53 = .ok (.i2l, 1) := by decide +kernel
theorem d_O_set_54 : decode b_O_set 54 = .ok (.ldc2_w 68, 3) := by decide +kernel
theorem d_O_set_57 : decode b_O_set 57 = .ok (.land, 1) := by decide +kernel
theorem d_O_set_58 : decode b_O_set 58 = .ok (.lor, 1) := by decide +kernel
theorem d_O_set_59 : decode b_O_set 59 = .ok (.lastore, 1) := by decide +kernel
theorem d_O_set_60 : decode b_O_set 60 = .ok (.return_, 1) := by decide +kernel
theorem d_O_set_24 : decode b_O_set 24 = .ok (.new 51, 3) := by decide +kernel
theorem d_O_set_7 : decode b_O_set 7 = .ok (.new 61, 3) := by decide +kernel
theorem d_O_set_27 : decode b_O_set 27 = .ok (.dup, 1) := by decide +kernel
theorem d_O_set_28 : decode b_O_set 28 = .ok (.ldc 66, 2) := by decide +kernel
theorem d_O_set_30 : decode b_O_set 30 = .ok (.invokespecial 55, 3) := by decide +kernel
theorem d_O_set_33 : decode b_O_set 33 = .ok (.athrow, 1) := by decide +kernel
theorem d_O_set_10 : decode b_O_set 10 = .ok (.dup, 1) := by decide +kernel
theorem d_O_set_11 : decode b_O_set 11 = .ok (.ldc 63, 2) := by decide +kernel
theorem d_O_set_13 : decode b_O_set 13 = .ok (.invokespecial 65, 3) := by decide +kernel
theorem d_O_set_16 : decode b_O_set 16 = .ok (.athrow, 1) := by decide +kernel
set_option maxHeartbeats 4000000 in
set_option maxRecDepth 100000 in
theorem c_O_set (l : Launch) (hl9 : l.stackTraces = false) (dC : Nat → ClassId) (dI : Nat → Nat → Nat) (cI : ClassId) (cL : ClassId) (aO : Nat) (aT : Nat) (aF : Nat) (a1 : Nat) (a2 : Nat) (a3 : Nat) (a4 : Nat) (a5 : Nat) (sz : Nat) (cw : Int32) (ts : Int32) (fT : Nat → Int32) (fF : Nat → Int64) (ir : Int32) (itp : Int32) (ihg : Int32) (ilw : Int32) : vx_Met l y_O_set w_O_set ({ frames := 6, cells := 1, slots := 6, locals := 110 }) (cPx (dC, dI) [(cI, .int), (cL, .long)] [.ref aO, .int ir, .int itp, .int ihg, .int ilw] [(aO, .inr (0, [.ref aT, .ref aF, .int cw, .int ts, .ref a1, .ref a2, .ref a3, .ref a4, .ref a5])), (aT, .inl (cI, 8, .inl fT)), (aF, .inl (cL, 8, .inr (.inl fF)))] sz) (va_Qv (fun (_ : Unit) => x_O_set ir itp = 0) (fun _ t => va_P (dC, dI) classes [(aO, .inr (0, [.ref aT, .ref aF, .int cw, .int ts, .ref a1, .ref a2, .ref a3, .ref a4, .ref a5])), (aT, .inl (cI, 8, .inl ((g_O_set fT fF ir itp ihg ilw).1))), (aF, .inl (cL, 8, .inr (.inl ((g_O_set fT fF ir itp ihg ilw).2))))] t.heap ∧ va_D (va_A [(aO, .inr (0, [.ref aT, .ref aF, .int cw, .int ts, .ref a1, .ref a2, .ref a3, .ref a4, .ref a5])), (aT, .inl (cI, 8, .inl fT)), (aF, .inl (cL, 8, .inr (.inl fF)))] sz) [(aO, .inr (0, [.ref aT, .ref aF, .int cw, .int ts, .ref a1, .ref a2, .ref a3, .ref a4, .ref a5])), (aT, .inl (cI, 8, .inl ((g_O_set fT fF ir itp ihg ilw).1))), (aF, .inl (cL, 8, .inr (.inl ((g_O_set fT fF ir itp ihg ilw).2))))]) (va_A [(aO, .inr (0, [.ref aT, .ref aF, .int cw, .int ts, .ref a1, .ref a2, .ref a3, .ref a4, .ref a5])), (aT, .inl (cI, 8, .inl fT)), (aF, .inl (cL, 8, .inr (.inl fF)))] sz)) (vx_X (fun (_ : Unit) => True) (fun E _ t => ((x_O_set ir itp = 1 ∧ E = "java/lang/IndexOutOfBoundsException") ∨ (x_O_set ir itp = 2 ∧ E = "java/lang/IllegalArgumentException")) ∧ va_P (dC, dI) classes [(aO, .inr (0, [.ref aT, .ref aF, .int cw, .int ts, .ref a1, .ref a2, .ref a3, .ref a4, .ref a5])), (aT, .inl (cI, 8, .inl fT)), (aF, .inl (cL, 8, .inr (.inl fF)))] t.heap ∧ va_D (va_A [(aO, .inr (0, [.ref aT, .ref aF, .int cw, .int ts, .ref a1, .ref a2, .ref a3, .ref a4, .ref a5])), (aT, .inl (cI, 8, .inl fT)), (aF, .inl (cL, 8, .inr (.inl fF)))] sz) [(aO, .inr (0, [.ref aT, .ref aF, .int cw, .int ts, .ref a1, .ref a2, .ref a3, .ref a4, .ref a5])), (aT, .inl (cI, 8, .inl fT)), (aF, .inl (cL, 8, .inr (.inl fF)))]) (va_A [(aO, .inr (0, [.ref aT, .ref aF, .int cw, .int ts, .ref a1, .ref a2, .ref a3, .ref a4, .ref a5])), (aT, .inl (cI, 8, .inl fT)), (aF, .inl (cL, 8, .inr (.inl fF)))] sz)) 1 6 (va_A [(aO, .inr (0, [.ref aT, .ref aF, .int cw, .int ts, .ref a1, .ref a2, .ref a3, .ref a4, .ref a5])), (aT, .inl (cI, 8, .inl fT)), (aF, .inl (cL, 8, .inr (.inl fF)))] sz) := by
  refine vx_ofW (cc := b_O_set) (maxL := 5) (ret := none) (by decide) rfl ?_
  intro p e s m args below meth c s₁ B hml htab hv
  obtain ⟨rfl, hsz, hP, hK, hD0, hnw, hZU, hZN, hsw⟩ := hv
  have hx := B.exec
  have hb := B.bytes
  have hr := B.returns
  have hts := atoms_spec (ws := w_O_set) B.pre
  have htA : ∀ w ∈ wAll, w.before _ s = true := fun w h => hts w (List.mem_cons_of_mem _ h)
  have hown : s.vm.findClass R_O = some m.cls := findClass_of_methodNamed B.named
  have hlocks := B.notSynchronized
  subst hsz
  have hD := hD0.self (sz := s.heap.size)
  generalize hAe : va_A [(aO, .inr (0, [.ref aT, .ref aF, .int cw, .int ts, .ref a1, .ref a2, .ref a3, .ref a4, .ref a5])), (aT, .inl (cI, 8, .inl fT)), (aF, .inl (cL, 8, .inr (.inl fF)))] s.heap.size = A at hD hZU hZN ⊢
  have hA : ∀ q : Nat, s.heap.size ≤ q → A q := fun q h => by rw [← hAe]; exact Or.inr h
  have hS : va_S A s.heap s.heap [] := va_S.rf
  have hP : va_P (dC, dI) classes [(aO, .inr (0, [.ref aT, .ref aF, .int cw, .int ts, .ref a1, .ref a2, .ref a3, .ref a4, .ref a5])), (aT, .inl (cI, 8, .inl fT)), (aF, .inl (cL, 8, .inr (.inl fF)))] s.heap := hP
  obtain ⟨H, eH⟩ : ∃ z, z = s.heap := ⟨_, rfl⟩
  rw [← eH] at hP
  have hS : va_S A s.heap H [] := by rw [eH]; exact hS
  rw [← eH]
  generalize ([] : List Loc) = locs at hS ⊢
  have hl := lv_entry ([.ref aO, .int ir, .int itp, .int ihg, .int ilw]) (n := 5) (Nat.le_of_ble_eq_true rfl)
  rw [lg_entry_eq]
  generalize (lg_sl ([.ref aO, .int ir, .int itp, .int ihg, .int ilw]) ++ List.replicate (5 - (lg_sl ([.ref aO, .int ir, .int itp, .int ihg, .int ilw])).length) Slot.unset).toArray = ls at hl ⊢
  have hl : lv_has ls 5 [(0, .ref aO), (1, .int ir), (2, .int itp), (3, .int ihg), (4, .int ilw)] := hl
  refine lv_iload_n hx hb d_O_set_0 rfl (lv_at hl 1 rfl) ?_
  have hPc := hP.sub (ws' := []) [] rfl
  have hDc := hD.sub (ws' := []) [] (by decide) rfl
  have hKc := hK.sub (tys' := []) [] rfl
  have hFc := va_free (wc := []) hD hS hA [] rfl
  refine cc_i (va_runS (As := [.int ir]) (rest := []) ⟨hx, hb, hml, hown, htA⟩ (c_O_isRegister l dC dI H.size ir) (va_cwS 1 htA (gi_S k_211 k_212 k_90 (gi_code k_86)) rfl rfl rfl (by decide +kernel) ⟨Nat.le_of_ble_eq_true rfl, Nat.le_of_ble_eq_true rfl⟩) (pre_S hnw hPc hKc hDc) rfl rfl hl.1 rfl (lv_room (Nat.le_of_ble_eq_true rfl)) d_O_set_1 ⟨Nat.le_of_ble_eq_true rfl, Nat.le_of_ble_eq_true rfl⟩) hS hFc hP hD [] [0, 1, 2] (wr := [(aO, .inr (0, [.ref aT, .ref aF, .int cw, .int ts, .ref a1, .ref a2, .ref a3, .ref a4, .ref a5])), (aT, .inl (cI, 8, .inl fT)), (aF, .inl (cL, 8, .inr (.inl fF)))]) rfl rfl (by decide) (by decide) (fun H locs hP hD hS => ?_)
  have hP : va_P (dC, dI) classes [(aO, .inr (0, [.ref aT, .ref aF, .int cw, .int ts, .ref a1, .ref a2, .ref a3, .ref a4, .ref a5])), (aT, .inl (cI, 8, .inl fT)), (aF, .inl (cL, 8, .inr (.inl fF)))] H := hP
  have hD : va_D A [(aO, .inr (0, [.ref aT, .ref aF, .int cw, .int ts, .ref a1, .ref a2, .ref a3, .ref a4, .ref a5])), (aT, .inl (cI, 8, .inl fT)), (aF, .inl (cL, 8, .inr (.inl fF)))] := hD
  refine lv_if_ne (tgt := 17) hx hb d_O_set_4 (by decide) (fun c_4 => ?_) (fun c_4 => ?_)
  · skip
    have c_4 : (g_O_isRegister ir) = true := b2i_nz c_4
    refine lv_iload_n hx hb d_O_set_17 rfl (lv_at hl 2 rfl) ?_
    have hPc := hP.sub (ws' := []) [] rfl
    have hDc := hD.sub (ws' := []) [] (by decide) rfl
    have hKc := hK.sub (tys' := []) [] rfl
    have hFc := va_free (wc := []) hD hS hA [] rfl
    refine cc_i (va_runS (As := [.int itp]) (rest := []) ⟨hx, hb, hml, hown, htA⟩ (c_O_hasSixteenBits l dC dI H.size itp) (va_cwS 1 htA (gi_S k_206 k_207 k_90 (gi_code k_88)) rfl rfl rfl (by decide +kernel) ⟨Nat.le_of_ble_eq_true rfl, Nat.le_of_ble_eq_true rfl⟩) (pre_S hnw hPc hKc hDc) rfl rfl hl.1 rfl (lv_room (Nat.le_of_ble_eq_true rfl)) d_O_set_18 ⟨Nat.le_of_ble_eq_true rfl, Nat.le_of_ble_eq_true rfl⟩) hS hFc hP hD [] [0, 1, 2] (wr := [(aO, .inr (0, [.ref aT, .ref aF, .int cw, .int ts, .ref a1, .ref a2, .ref a3, .ref a4, .ref a5])), (aT, .inl (cI, 8, .inl fT)), (aF, .inl (cL, 8, .inr (.inl fF)))]) rfl rfl (by decide) (by decide) (fun H locs hP hD hS => ?_)
    have hP : va_P (dC, dI) classes [(aO, .inr (0, [.ref aT, .ref aF, .int cw, .int ts, .ref a1, .ref a2, .ref a3, .ref a4, .ref a5])), (aT, .inl (cI, 8, .inl fT)), (aF, .inl (cL, 8, .inr (.inl fF)))] H := hP
    have hD : va_D A [(aO, .inr (0, [.ref aT, .ref aF, .int cw, .int ts, .ref a1, .ref a2, .ref a3, .ref a4, .ref a5])), (aT, .inl (cI, 8, .inl fT)), (aF, .inl (cL, 8, .inr (.inl fF)))] := hD
    refine lv_if_ne (tgt := 34) hx hb d_O_set_21 (by decide) (fun c_21 => ?_) (fun c_21 => ?_)
    · skip
      have c_21 : (g_O_hasSixteenBits itp) = true := b2i_nz c_21
      refine lv_aload_n hx hb d_O_set_34 rfl (lv_at hl 0 rfl) ?_
      refine va_get (D := (dC, dI)) (ci := 0) (v := .ref aT) (C := R_O) (T := F_O) (N := 9) hx hb htA in_O hown hK hP 0 rfl rfl 0 (by decide) (htA _ k_201) (fun _ h9 => h9) rfl d_O_set_35 ?_
      refine lv_iload_n hx hb d_O_set_38 rfl (lv_at hl 1 rfl) ?_
      refine lv_iload_n hx hb d_O_set_39 rfl (lv_at hl 2 rfl) ?_
      refine va_iast hx hb hK hP hD hS 1 0 rfl rfl (reg_in c_4) d_O_set_40 (fun H locs hP hD hS => ?_)
      have hP : va_P (dC, dI) classes [(aO, .inr (0, [.ref aT, .ref aF, .int cw, .int ts, .ref a1, .ref a2, .ref a3, .ref a4, .ref a5])), (aT, .inl (cI, 8, .inl (upd fT ir.toNatClampNeg itp))), (aF, .inl (cL, 8, .inr (.inl fF)))] H := hP
      have hD : va_D A [(aO, .inr (0, [.ref aT, .ref aF, .int cw, .int ts, .ref a1, .ref a2, .ref a3, .ref a4, .ref a5])), (aT, .inl (cI, 8, .inl (upd fT ir.toNatClampNeg itp))), (aF, .inl (cL, 8, .inr (.inl fF)))] := hD
      refine lv_aload_n hx hb d_O_set_41 rfl (lv_at hl 0 rfl) ?_
      refine va_get (D := (dC, dI)) (ci := 0) (v := .ref aF) (C := R_O) (T := F_O) (N := 9) hx hb htA in_O hown hK hP 0 rfl rfl 1 (by decide) (htA _ k_202) (fun _ h9 => h9) rfl d_O_set_42 ?_
      refine lv_iload_n hx hb d_O_set_45 rfl (lv_at hl 1 rfl) ?_
      refine lv_iload_n hx hb d_O_set_46 rfl (lv_at hl 3 rfl) ?_
      refine lv_i2l (v := ihg.toInt64) hx hb d_O_set_47 rfl ?_
      refine lv_bipush (v := 32) hx hb d_O_set_48 (by decide) ?_
      refine lv_lshl (v := (sL (ihg.toInt64) 32)) hx hb d_O_set_50 rfl ?_
      refine lv_iload hx hb d_O_set_51 (lv_at hl 4 rfl) ?_
      refine lv_i2l (v := ilw.toInt64) hx hb d_O_set_53 rfl ?_
      refine lv_ldc2 (v := 4294967295) hx hb hown (htA _ k_213) d_O_set_54 ?_
      refine lv_land hx hb d_O_set_57 ?_
      refine lv_lor hx hb d_O_set_58 ?_
      refine va_last hx hb hK hP hD hS 2 1 rfl rfl (reg_in c_4) d_O_set_59 (fun H locs hP hD hS => ?_)
      have hP : va_P (dC, dI) classes [(aO, .inr (0, [.ref aT, .ref aF, .int cw, .int ts, .ref a1, .ref a2, .ref a3, .ref a4, .ref a5])), (aT, .inl (cI, 8, .inl (upd fT ir.toNatClampNeg itp))), (aF, .inl (cL, 8, .inr (.inl (vp_updL fF ir.toNatClampNeg ((sL (ihg.toInt64) 32) ||| ((ilw.toInt64) &&& 4294967295))))))] H := hP
      have hD : va_D A [(aO, .inr (0, [.ref aT, .ref aF, .int cw, .int ts, .ref a1, .ref a2, .ref a3, .ref a4, .ref a5])), (aT, .inl (cI, 8, .inl (upd fT ir.toNatClampNeg itp))), (aF, .inl (cL, 8, .inr (.inl (vp_updL fF ir.toNatClampNeg ((sL (ihg.toInt64) 32) ||| ((ilw.toInt64) &&& 4294967295))))))] := hD
      have hE : g_O_set fT fF ir itp ihg ilw = ((upd fT ir.toNatClampNeg itp), (vp_updL fF ir.toNatClampNeg ((sL (ihg.toInt64) 32) ||| ((ilw.toInt64) &&& 4294967295)))) := by clear hP hD hl hS; unfold g_O_set; (try dsimp only); rw [if_pos c_4, if_pos c_21]
      have hP9 : va_P (dC, dI) classes [(aO, .inr (0, [.ref aT, .ref aF, .int cw, .int ts, .ref a1, .ref a2, .ref a3, .ref a4, .ref a5])), (aT, .inl (cI, 8, .inl ((g_O_set fT fF ir itp ihg ilw).1))), (aF, .inl (cL, 8, .inr (.inl ((g_O_set fT fF ir itp ihg ilw).2))))] H := by rw [hE]; exact hP.sub [0, 1, 2] rfl
      have hD9 : va_D A [(aO, .inr (0, [.ref aT, .ref aF, .int cw, .int ts, .ref a1, .ref a2, .ref a3, .ref a4, .ref a5])), (aT, .inl (cI, 8, .inl ((g_O_set fT fF ir itp ihg ilw).1))), (aF, .inl (cL, 8, .inr (.inl ((g_O_set fT fF ir itp ihg ilw).2))))] := by rw [hE]; exact hD.sub [0, 1, 2] (by decide) rfl
      have hE0 : x_O_set ir itp = 0 := by clear hP hD hl hS; unfold x_O_set; (try dsimp only); rw [if_pos c_4, if_pos c_21]
      refine vx_ret ?_
      refine W.widen (k := 1) (n := 6) (Nat.le_of_ble_eq_true rfl) (Nat.le_of_ble_eq_true rfl) ?_
      exact W.vret hx hb hr (fun t ht hW => ⟨⟨(), rfl, hE0, by rw [ht]; exact hP9, hD9⟩, hS.F ht⟩) hS.2.2 d_O_set_60
    · skip
      have c_21 : ¬ (g_O_hasSixteenBits itp) = true := b2i_z c_21
      obtain ⟨sa, hstr⟩ := hsw _ s_1
      have hE : x_O_set ir itp = 2 := by clear hP hD hl hS; unfold x_O_set; (try dsimp only); rw [if_pos c_4, if_neg c_21]
      have hP9 : va_P (dC, dI) classes [(aO, .inr (0, [.ref aT, .ref aF, .int cw, .int ts, .ref a1, .ref a2, .ref a3, .ref a4, .ref a5])), (aT, .inl (cI, 8, .inl fT)), (aF, .inl (cL, 8, .inr (.inl fF)))] H := hP.sub [0, 1, 2] rfl
      have hD9 : va_D A [(aO, .inr (0, [.ref aT, .ref aF, .int cw, .int ts, .ref a1, .ref a2, .ref a3, .ref a4, .ref a5])), (aT, .inl (cI, 8, .inl fT)), (aF, .inl (cL, 8, .inr (.inl fF)))] := hD.sub [0, 1, 2] (by decide) rfl
      exact vx_throwS (own := R_O) (cls := "java/lang/IllegalArgumentException") (names := ["java/lang/RuntimeException", "java/lang/Exception"]) hx hb hl9 hown (by decide +kernel) (by decide +kernel) (htA _ k_208) (htA _ k_209) hstr (vx_hat (L := vx_atS R_O 55 "java/lang/IllegalArgumentException" ["java/lang/RuntimeException", "java/lang/Exception"]) (B := [.castable "java/lang/IllegalArgumentException" "java/lang/IllegalArgumentException", .declares ⟨"java/lang/RuntimeException", "<init>", "(Ljava/lang/String;)V"⟩, .declares ⟨"java/lang/Exception", "<init>", "(Ljava/lang/String;)V"⟩, .declares ⟨"java/lang/Throwable", "<init>", "(Ljava/lang/String;)V"⟩]) (fun w hw => htA w (hat_0 w hw)) (by decide +kernel) (vx_c (va_Nw.use rfl (hnw _ n_27)) (vx_c (va_Nw.use rfl (hnw _ n_28)) (vx_c (va_Nw.use rfl (hnw _ n_29)) (vx_c (va_Nw.use rfl (hnw _ n_30)) vx_n))))) (by decide +kernel) hZU hZN hS (hl.1.trans hml.symm) d_O_set_24 d_O_set_27 d_O_set_28 d_O_set_30 d_O_set_33 (fun x hx9 => (htab x hx9).elim) (Nat.le_of_ble_eq_true rfl) (Nat.le_of_ble_eq_true rfl) (Nat.le_of_ble_eq_true rfl) (Nat.le_of_ble_eq_true rfl) hlocks (fun t ha hsz hk => ⟨(), trivial, ⟨Or.inr ⟨hE, rfl⟩, hP9.kept (fun k q hq => hk q.1 (hP9 k q hq).lt), hD9⟩, Nat.le_trans hS.1 hsz, fun q h1 h2 => (hk q (Nat.lt_of_lt_of_le h1 hS.1)).trans (hS.2.1 q h1 h2)⟩) hS.2.2 (Nat.le_of_ble_eq_true rfl) (Nat.le_of_ble_eq_true rfl)
  · skip
    have c_4 : ¬ (g_O_isRegister ir) = true := b2i_z c_4
    obtain ⟨sa, hstr⟩ := hsw _ s_2
    have hE : x_O_set ir itp = 1 := by clear hP hD hl hS; unfold x_O_set; (try dsimp only); rw [if_neg c_4]
    have hP9 : va_P (dC, dI) classes [(aO, .inr (0, [.ref aT, .ref aF, .int cw, .int ts, .ref a1, .ref a2, .ref a3, .ref a4, .ref a5])), (aT, .inl (cI, 8, .inl fT)), (aF, .inl (cL, 8, .inr (.inl fF)))] H := hP.sub [0, 1, 2] rfl
    have hD9 : va_D A [(aO, .inr (0, [.ref aT, .ref aF, .int cw, .int ts, .ref a1, .ref a2, .ref a3, .ref a4, .ref a5])), (aT, .inl (cI, 8, .inl fT)), (aF, .inl (cL, 8, .inr (.inl fF)))] := hD.sub [0, 1, 2] (by decide) rfl
    exact vx_throwS (own := R_O) (cls := "java/lang/IndexOutOfBoundsException") (names := ["java/lang/RuntimeException", "java/lang/Exception"]) hx hb hl9 hown (by decide +kernel) (by decide +kernel) (htA _ k_214) (htA _ k_215) hstr (vx_hat (L := vx_atS R_O 65 "java/lang/IndexOutOfBoundsException" ["java/lang/RuntimeException", "java/lang/Exception"]) (B := [.castable "java/lang/IndexOutOfBoundsException" "java/lang/IndexOutOfBoundsException", .declares ⟨"java/lang/RuntimeException", "<init>", "(Ljava/lang/String;)V"⟩, .declares ⟨"java/lang/Exception", "<init>", "(Ljava/lang/String;)V"⟩, .declares ⟨"java/lang/Throwable", "<init>", "(Ljava/lang/String;)V"⟩]) (fun w hw => htA w (hat_1 w hw)) (by decide +kernel) (vx_c (va_Nw.use rfl (hnw _ n_31)) (vx_c (va_Nw.use rfl (hnw _ n_28)) (vx_c (va_Nw.use rfl (hnw _ n_29)) (vx_c (va_Nw.use rfl (hnw _ n_30)) vx_n))))) (by decide +kernel) hZU hZN hS (hl.1.trans hml.symm) d_O_set_7 d_O_set_10 d_O_set_11 d_O_set_13 d_O_set_16 (fun x hx9 => (htab x hx9).elim) (Nat.le_of_ble_eq_true rfl) (Nat.le_of_ble_eq_true rfl) (Nat.le_of_ble_eq_true rfl) (Nat.le_of_ble_eq_true rfl) hlocks (fun t ha hsz hk => ⟨(), trivial, ⟨Or.inl ⟨hE, rfl⟩, hP9.kept (fun k q hq => hk q.1 (hP9 k q hq).lt), hD9⟩, Nat.le_trans hS.1 hsz, fun q h1 h2 => (hk q (Nat.lt_of_lt_of_le h1 hS.1)).trans (hS.2.1 q h1 h2)⟩) hS.2.2 (Nat.le_of_ble_eq_true rfl) (Nat.le_of_ble_eq_true rfl)
theorem d_O_part_0 : decode b_O_part 0 = .ok (.iload_n 1, 1) := by decide +kernel
theorem d_O_part_1 : decode b_O_part 1 = .ok (.invokestatic 58, 3) := by decide +kernel
theorem d_O_part_4 : decode b_O_part 4 = .ok (.ifCond .ne 13, 3) := by decide +kernel
theorem d_O_part_17 : decode b_O_part 17 = .ok (.iload_n 2, 1) := by decide +kernel
theorem d_O_part_18 : decode b_O_part 18 = .ok (.tableswitch 52 0 2 #[26, 33, 44], 26) := by decide +kernel
theorem d_O_part_44 : decode b_O_part 44 = .ok (.aload_n 0, 1) := by decide +kernel
theorem d_O_part_45 : decode b_O_part 45 = .ok (.getfield 9, 3) := by decide +kernel
theorem d_O_part_48 : decode b_O_part 48 = .ok (.iload_n 1, 1) := by decide +kernel
theorem d_O_part_49 : decode b_O_part 49 = .ok (.iaload, 1) := by decide +kernel
theorem d_O_part_50 : decode b_O_part 50 = .ok (.ireturn, 1) := by decide +kernel
theorem d_O_part_51 : decode b_O_part 51 = .ok (.aload_n 0, 1) := by decide +kernel
theorem d_O_part_52 : decode b_O_part 52 = .ok (.getfield 13, 3) := by decide +kernel
theorem d_O_part_55 : decode b_O_part 55 = .ok (.iload_n 1, 1) := by decide +kernel
theorem d_O_part_56 : decode b_O_part 56 = .ok (.laload, 1) := by decide +kernel
theorem d_O_part_57 : decode b_O_part 57 = .ok (.bipush 32, 2) := by decide +kernel
theorem d_O_part_59 : decode b_O_part 59 = .ok (.lushr, 1) := by decide +kernel
theorem d_O_part_60 : decode b_O_part 60 = .ok (.l2i, 1) := by decide +kernel
theorem d_O_part_61 : decode b_O_part 61 = .ok (.ireturn, 1) := by decide +kernel
theorem d_O_part_62 : decode b_O_part 62 = .ok (.aload_n 0, 1) := by decide +kernel
theorem d_O_part_63 : decode b_O_part 63 = .ok (.getfield 13, 3) := by decide +kernel
theorem d_O_part_66 : decode b_O_part 66 = .ok (.iload_n 1, 1) := by decide +kernel
theorem d_O_part_67 : decode b_O_part 67 = .ok (.laload, 1) := by decide +kernel
theorem d_O_part_68 : decode b_O_part 68 = .ok (.l2i, 1) := by decide +kernel
theorem d_O_part_69 : decode b_O_part 69 = .ok (.ireturn, 1) := by decide +kernel
theorem d_O_part_70 : decode b_O_part 70 = .ok (.new 51, 3) := by decide +kernel
theorem d_O_part_7 : decode b_O_part 7 = .ok (.new 61, 3) := by decide +kernel
theorem d_O_part_73 : decode b_O_part 73 = .ok (.dup, 1) := by decide +kernel
theorem d_O_part_74 : decode b_O_part 74 = .ok (.ldc 70, 2) := by decide +kernel
theorem d_O_part_76 : decode b_O_part 76 = .ok (.invokespecial 55, 3) := by decide +kernel
theorem d_O_part_79 : decode b_O_part 79 = .ok (.athrow, 1) := by decide +kernel
theorem d_O_part_10 : decode b_O_part 10 = .ok (.dup, 1) := by decide +kernel
theorem d_O_part_11 : decode b_O_part 11 = .ok (.ldc 63, 2) := by decide +kernel
theorem d_O_part_13 : decode b_O_part 13 = .ok (.invokespecial 65, 3) := by decide +kernel
theorem d_O_part_16 : decode b_O_part 16 = .ok (.athrow, 1) := by decide +kernel
set_option maxHeartbeats 4000000 in
set_option maxRecDepth 100000 in
theorem c_O_part (l : Launch) (hl9 : l.stackTraces = false) (dC : Nat → ClassId) (dI : Nat → Nat → Nat) (cI : ClassId) (cL : ClassId) (aO : Nat) (aT : Nat) (aF : Nat) (a1 : Nat) (a2 : Nat) (a3 : Nat) (a4 : Nat) (a5 : Nat) (sz : Nat) (cw : Int32) (ts : Int32) (fT : Nat → Int32) (fF : Nat → Int64) (ir : Int32) (iwh : Int32) : vx_Met l y_O_part w_O_part ({ frames := 6, cells := 1, slots := 6, locals := 110 }) (cPx (dC, dI) [(cI, .int), (cL, .long)] [.ref aO, .int ir, .int iwh] [(aO, .inr (0, [.ref aT, .ref aF, .int cw, .int ts, .ref a1, .ref a2, .ref a3, .ref a4, .ref a5])), (aT, .inl (cI, 8, .inl fT)), (aF, .inl (cL, 8, .inr (.inl fF)))] sz) (va_Qi (fun (r : Int32) (_ : Unit) => r = (g_O_part fT fF ir iwh) ∧ x_O_part ir iwh = 0) (fun _ t => va_P (dC, dI) classes [(aO, .inr (0, [.ref aT, .ref aF, .int cw, .int ts, .ref a1, .ref a2, .ref a3, .ref a4, .ref a5])), (aT, .inl (cI, 8, .inl fT)), (aF, .inl (cL, 8, .inr (.inl fF)))] t.heap ∧ va_D (va_A [(aO, .inr (0, [.ref aT, .ref aF, .int cw, .int ts, .ref a1, .ref a2, .ref a3, .ref a4, .ref a5])), (aT, .inl (cI, 8, .inl fT)), (aF, .inl (cL, 8, .inr (.inl fF)))] sz) [(aO, .inr (0, [.ref aT, .ref aF, .int cw, .int ts, .ref a1, .ref a2, .ref a3, .ref a4, .ref a5])), (aT, .inl (cI, 8, .inl fT)), (aF, .inl (cL, 8, .inr (.inl fF)))]) (va_A [(aO, .inr (0, [.ref aT, .ref aF, .int cw, .int ts, .ref a1, .ref a2, .ref a3, .ref a4, .ref a5])), (aT, .inl (cI, 8, .inl fT)), (aF, .inl (cL, 8, .inr (.inl fF)))] sz)) (vx_X (fun (_ : Unit) => True) (fun E _ t => ((x_O_part ir iwh = 1 ∧ E = "java/lang/IndexOutOfBoundsException") ∨ (x_O_part ir iwh = 2 ∧ E = "java/lang/IllegalArgumentException")) ∧ va_P (dC, dI) classes [(aO, .inr (0, [.ref aT, .ref aF, .int cw, .int ts, .ref a1, .ref a2, .ref a3, .ref a4, .ref a5])), (aT, .inl (cI, 8, .inl fT)), (aF, .inl (cL, 8, .inr (.inl fF)))] t.heap ∧ va_D (va_A [(aO, .inr (0, [.ref aT, .ref aF, .int cw, .int ts, .ref a1, .ref a2, .ref a3, .ref a4, .ref a5])), (aT, .inl (cI, 8, .inl fT)), (aF, .inl (cL, 8, .inr (.inl fF)))] sz) [(aO, .inr (0, [.ref aT, .ref aF, .int cw, .int ts, .ref a1, .ref a2, .ref a3, .ref a4, .ref a5])), (aT, .inl (cI, 8, .inl fT)), (aF, .inl (cL, 8, .inr (.inl fF)))]) (va_A [(aO, .inr (0, [.ref aT, .ref aF, .int cw, .int ts, .ref a1, .ref a2, .ref a3, .ref a4, .ref a5])), (aT, .inl (cI, 8, .inl fT)), (aF, .inl (cL, 8, .inr (.inl fF)))] sz)) 1 6 (va_A [(aO, .inr (0, [.ref aT, .ref aF, .int cw, .int ts, .ref a1, .ref a2, .ref a3, .ref a4, .ref a5])), (aT, .inl (cI, 8, .inl fT)), (aF, .inl (cL, 8, .inr (.inl fF)))] sz) := by
  refine vx_ofW (cc := b_O_part) (maxL := 3) (ret := (some .int)) (by decide) rfl ?_
  intro p e s m args below meth c s₁ B hml htab hv
  obtain ⟨rfl, hsz, hP, hK, hD0, hnw, hZU, hZN, hsw⟩ := hv
  have hx := B.exec
  have hb := B.bytes
  have hr := B.returns
  have hts := atoms_spec (ws := w_O_part) B.pre
  have htA : ∀ w ∈ wAll, w.before _ s = true := fun w h => hts w (List.mem_cons_of_mem _ h)
  have hown : s.vm.findClass R_O = some m.cls := findClass_of_methodNamed B.named
  have hlocks := B.notSynchronized
  subst hsz
  have hD := hD0.self (sz := s.heap.size)
  generalize hAe : va_A [(aO, .inr (0, [.ref aT, .ref aF, .int cw, .int ts, .ref a1, .ref a2, .ref a3, .ref a4, .ref a5])), (aT, .inl (cI, 8, .inl fT)), (aF, .inl (cL, 8, .inr (.inl fF)))] s.heap.size = A at hD hZU hZN ⊢
  have hA : ∀ q : Nat, s.heap.size ≤ q → A q := fun q h => by rw [← hAe]; exact Or.inr h
  have hS : va_S A s.heap s.heap [] := va_S.rf
  have hP : va_P (dC, dI) classes [(aO, .inr (0, [.ref aT, .ref aF, .int cw, .int ts, .ref a1, .ref a2, .ref a3, .ref a4, .ref a5])), (aT, .inl (cI, 8, .inl fT)), (aF, .inl (cL, 8, .inr (.inl fF)))] s.heap := hP
  obtain ⟨H, eH⟩ : ∃ z, z = s.heap := ⟨_, rfl⟩
  rw [← eH] at hP
  have hS : va_S A s.heap H [] := by rw [eH]; exact hS
  rw [← eH]
  generalize ([] : List Loc) = locs at hS ⊢
  have hl := lv_entry ([.ref aO, .int ir, .int iwh]) (n := 3) (Nat.le_of_ble_eq_true rfl)
  rw [lg_entry_eq]
  generalize (lg_sl ([.ref aO, .int ir, .int iwh]) ++ List.replicate (3 - (lg_sl ([.ref aO, .int ir, .int iwh])).length) Slot.unset).toArray = ls at hl ⊢
  have hl : lv_has ls 3 [(0, .ref aO), (1, .int ir), (2, .int iwh)] := hl
  refine lv_iload_n hx hb d_O_part_0 rfl (lv_at hl 1 rfl) ?_
  have hPc := hP.sub (ws' := []) [] rfl
  have hDc := hD.sub (ws' := []) [] (by decide) rfl
  have hKc := hK.sub (tys' := []) [] rfl
  have hFc := va_free (wc := []) hD hS hA [] rfl
  refine cc_i (va_runS (As := [.int ir]) (rest := []) ⟨hx, hb, hml, hown, htA⟩ (c_O_isRegister l dC dI H.size ir) (va_cwS 1 htA (gi_S k_211 k_212 k_90 (gi_code k_86)) rfl rfl rfl (by decide +kernel) ⟨Nat.le_of_ble_eq_true rfl, Nat.le_of_ble_eq_true rfl⟩) (pre_S hnw hPc hKc hDc) rfl rfl hl.1 rfl (lv_room (Nat.le_of_ble_eq_true rfl)) d_O_part_1 ⟨Nat.le_of_ble_eq_true rfl, Nat.le_of_ble_eq_true rfl⟩) hS hFc hP hD [] [0, 1, 2] (wr := [(aO, .inr (0, [.ref aT, .ref aF, .int cw, .int ts, .ref a1, .ref a2, .ref a3, .ref a4, .ref a5])), (aT, .inl (cI, 8, .inl fT)), (aF, .inl (cL, 8, .inr (.inl fF)))]) rfl rfl (by decide) (by decide) (fun H locs hP hD hS => ?_)
  have hP : va_P (dC, dI) classes [(aO, .inr (0, [.ref aT, .ref aF, .int cw, .int ts, .ref a1, .ref a2, .ref a3, .ref a4, .ref a5])), (aT, .inl (cI, 8, .inl fT)), (aF, .inl (cL, 8, .inr (.inl fF)))] H := hP
  have hD : va_D A [(aO, .inr (0, [.ref aT, .ref aF, .int cw, .int ts, .ref a1, .ref a2, .ref a3, .ref a4, .ref a5])), (aT, .inl (cI, 8, .inl fT)), (aF, .inl (cL, 8, .inr (.inl fF)))] := hD
  refine lv_if_ne (tgt := 17) hx hb d_O_part_4 (by decide) (fun c_4 => ?_) (fun c_4 => ?_)
  · skip
    have c_4 : (g_O_isRegister ir) = true := b2i_nz c_4
    refine lv_iload_n hx hb d_O_part_17 rfl (lv_at hl 2 rfl) ?_
    by_cases c_18_0 : iwh = 0
    · skip
      refine lv_tableIn (off := 26) (tgt := 44) hx hb d_O_part_18 (by rw [c_18_0]; decide) (by rw [c_18_0]; decide) (by rw [c_18_0]; rfl) (by decide) ?_
      refine lv_aload_n hx hb d_O_part_44 rfl (lv_at hl 0 rfl) ?_
      refine va_get (D := (dC, dI)) (ci := 0) (v := .ref aT) (C := R_O) (T := F_O) (N := 9) hx hb htA in_O hown hK hP 0 rfl rfl 0 (by decide) (htA _ k_201) (fun _ h9 => h9) rfl d_O_part_45 ?_
      refine lv_iload_n hx hb d_O_part_48 rfl (lv_at hl 1 rfl) ?_
      refine va_iald hx hb hK hP 1 0 rfl rfl (reg_in c_4) d_O_part_49 ?_
      have hE : g_O_part fT fF ir iwh = ((fT ir.toNatClampNeg)) := by clear hP hD hl hS; unfold g_O_part; (try dsimp only); rw [if_pos c_4, if_pos c_18_0]
      have hP9 : va_P (dC, dI) classes [(aO, .inr (0, [.ref aT, .ref aF, .int cw, .int ts, .ref a1, .ref a2, .ref a3, .ref a4, .ref a5])), (aT, .inl (cI, 8, .inl fT)), (aF, .inl (cL, 8, .inr (.inl fF)))] H := by exact hP.sub [0, 1, 2] rfl
      have hD9 : va_D A [(aO, .inr (0, [.ref aT, .ref aF, .int cw, .int ts, .ref a1, .ref a2, .ref a3, .ref a4, .ref a5])), (aT, .inl (cI, 8, .inl fT)), (aF, .inl (cL, 8, .inr (.inl fF)))] := by exact hD.sub [0, 1, 2] (by decide) rfl
      have hE0 : x_O_part ir iwh = 0 := by clear hP hD hl hS; unfold x_O_part; (try dsimp only); rw [if_pos c_4, if_pos c_18_0]
      refine vx_ret ?_
      refine W.widen (k := 1) (n := 6) (Nat.le_of_ble_eq_true rfl) (Nat.le_of_ble_eq_true rfl) ?_
      exact W.iret (v := (fT ir.toNatClampNeg)) hx hb hr (fun t ht hW => ⟨⟨(fT ir.toNatClampNeg), (), rfl, ⟨by rw [hE], hE0⟩, by rw [ht]; exact hP9, hD9⟩, hS.F ht⟩) hS.2.2 d_O_part_50
    · skip
      by_cases c_18_1 : iwh = 1
      · skip
        refine lv_tableIn (off := 33) (tgt := 51) hx hb d_O_part_18 (by rw [c_18_1]; decide) (by rw [c_18_1]; decide) (by rw [c_18_1]; rfl) (by decide) ?_
        refine lv_aload_n hx hb d_O_part_51 rfl (lv_at hl 0 rfl) ?_
        refine va_get (D := (dC, dI)) (ci := 0) (v := .ref aF) (C := R_O) (T := F_O) (N := 9) hx hb htA in_O hown hK hP 0 rfl rfl 1 (by decide) (htA _ k_202) (fun _ h9 => h9) rfl d_O_part_52 ?_
        refine lv_iload_n hx hb d_O_part_55 rfl (lv_at hl 1 rfl) ?_
        refine va_lald hx hb hK hP 2 1 rfl rfl (reg_in c_4) d_O_part_56 ?_
        refine lv_bipush (v := 32) hx hb d_O_part_57 (by decide) ?_
        refine lv_lushr (v := (uR (fF ir.toNatClampNeg) 32)) hx hb d_O_part_59 rfl ?_
        refine lv_l2i (v := (uR (fF ir.toNatClampNeg) 32).toInt32) hx hb d_O_part_60 rfl ?_
        have hE : g_O_part fT fF ir iwh = (((uR (fF ir.toNatClampNeg) 32).toInt32)) := by clear hP hD hl hS; unfold g_O_part; (try dsimp only); rw [if_pos c_4, if_neg c_18_0, if_pos c_18_1]
        have hP9 : va_P (dC, dI) classes [(aO, .inr (0, [.ref aT, .ref aF, .int cw, .int ts, .ref a1, .ref a2, .ref a3, .ref a4, .ref a5])), (aT, .inl (cI, 8, .inl fT)), (aF, .inl (cL, 8, .inr (.inl fF)))] H := by exact hP.sub [0, 1, 2] rfl
        have hD9 : va_D A [(aO, .inr (0, [.ref aT, .ref aF, .int cw, .int ts, .ref a1, .ref a2, .ref a3, .ref a4, .ref a5])), (aT, .inl (cI, 8, .inl fT)), (aF, .inl (cL, 8, .inr (.inl fF)))] := by exact hD.sub [0, 1, 2] (by decide) rfl
        have hE0 : x_O_part ir iwh = 0 := by clear hP hD hl hS; unfold x_O_part; (try dsimp only); rw [if_pos c_4, if_neg c_18_0, if_pos c_18_1]
        refine vx_ret ?_
        refine W.widen (k := 1) (n := 6) (Nat.le_of_ble_eq_true rfl) (Nat.le_of_ble_eq_true rfl) ?_
        exact W.iret (v := ((uR (fF ir.toNatClampNeg) 32).toInt32)) hx hb hr (fun t ht hW => ⟨⟨((uR (fF ir.toNatClampNeg) 32).toInt32), (), rfl, ⟨by rw [hE], hE0⟩, by rw [ht]; exact hP9, hD9⟩, hS.F ht⟩) hS.2.2 d_O_part_61
      · skip
        by_cases c_18_2 : iwh = 2
        · skip
          refine lv_tableIn (off := 44) (tgt := 62) hx hb d_O_part_18 (by rw [c_18_2]; decide) (by rw [c_18_2]; decide) (by rw [c_18_2]; rfl) (by decide) ?_
          refine lv_aload_n hx hb d_O_part_62 rfl (lv_at hl 0 rfl) ?_
          refine va_get (D := (dC, dI)) (ci := 0) (v := .ref aF) (C := R_O) (T := F_O) (N := 9) hx hb htA in_O hown hK hP 0 rfl rfl 1 (by decide) (htA _ k_202) (fun _ h9 => h9) rfl d_O_part_63 ?_
          refine lv_iload_n hx hb d_O_part_66 rfl (lv_at hl 1 rfl) ?_
          refine va_lald hx hb hK hP 2 1 rfl rfl (reg_in c_4) d_O_part_67 ?_
          refine lv_l2i (v := (fF ir.toNatClampNeg).toInt32) hx hb d_O_part_68 rfl ?_
          have hE : g_O_part fT fF ir iwh = (((fF ir.toNatClampNeg).toInt32)) := by clear hP hD hl hS; unfold g_O_part; (try dsimp only); rw [if_pos c_4, if_neg c_18_0, if_neg c_18_1, if_pos c_18_2]
          have hP9 : va_P (dC, dI) classes [(aO, .inr (0, [.ref aT, .ref aF, .int cw, .int ts, .ref a1, .ref a2, .ref a3, .ref a4, .ref a5])), (aT, .inl (cI, 8, .inl fT)), (aF, .inl (cL, 8, .inr (.inl fF)))] H := by exact hP.sub [0, 1, 2] rfl
          have hD9 : va_D A [(aO, .inr (0, [.ref aT, .ref aF, .int cw, .int ts, .ref a1, .ref a2, .ref a3, .ref a4, .ref a5])), (aT, .inl (cI, 8, .inl fT)), (aF, .inl (cL, 8, .inr (.inl fF)))] := by exact hD.sub [0, 1, 2] (by decide) rfl
          have hE0 : x_O_part ir iwh = 0 := by clear hP hD hl hS; unfold x_O_part; (try dsimp only); rw [if_pos c_4, if_neg c_18_0, if_neg c_18_1, if_pos c_18_2]
          refine vx_ret ?_
          refine W.widen (k := 1) (n := 6) (Nat.le_of_ble_eq_true rfl) (Nat.le_of_ble_eq_true rfl) ?_
          exact W.iret (v := ((fF ir.toNatClampNeg).toInt32)) hx hb hr (fun t ht hW => ⟨⟨((fF ir.toNatClampNeg).toInt32), (), rfl, ⟨by rw [hE], hE0⟩, by rw [ht]; exact hP9, hD9⟩, hS.F ht⟩) hS.2.2 d_O_part_69
        · skip
          refine lv_tableOut (tgt := 70) hx hb d_O_part_18 (by have h09 := lv_neT c_18_0 (a := 0) rfl; have h19 := lv_neT c_18_1 (a := 1) rfl; have h29 := lv_neT c_18_2 (a := 2) rfl; omega) (by decide) ?_
          obtain ⟨sa, hstr⟩ := hsw _ s_3
          have hE : x_O_part ir iwh = 2 := by clear hP hD hl hS; unfold x_O_part; (try dsimp only); rw [if_pos c_4, if_neg c_18_0, if_neg c_18_1, if_neg c_18_2]
          have hP9 : va_P (dC, dI) classes [(aO, .inr (0, [.ref aT, .ref aF, .int cw, .int ts, .ref a1, .ref a2, .ref a3, .ref a4, .ref a5])), (aT, .inl (cI, 8, .inl fT)), (aF, .inl (cL, 8, .inr (.inl fF)))] H := hP.sub [0, 1, 2] rfl
          have hD9 : va_D A [(aO, .inr (0, [.ref aT, .ref aF, .int cw, .int ts, .ref a1, .ref a2, .ref a3, .ref a4, .ref a5])), (aT, .inl (cI, 8, .inl fT)), (aF, .inl (cL, 8, .inr (.inl fF)))] := hD.sub [0, 1, 2] (by decide) rfl
          exact vx_throwS (own := R_O) (cls := "java/lang/IllegalArgumentException") (names := ["java/lang/RuntimeException", "java/lang/Exception"]) hx hb hl9 hown (by decide +kernel) (by decide +kernel) (htA _ k_208) (htA _ k_209) hstr (vx_hat (L := vx_atS R_O 55 "java/lang/IllegalArgumentException" ["java/lang/RuntimeException", "java/lang/Exception"]) (B := [.castable "java/lang/IllegalArgumentException" "java/lang/IllegalArgumentException", .declares ⟨"java/lang/RuntimeException", "<init>", "(Ljava/lang/String;)V"⟩, .declares ⟨"java/lang/Exception", "<init>", "(Ljava/lang/String;)V"⟩, .declares ⟨"java/lang/Throwable", "<init>", "(Ljava/lang/String;)V"⟩]) (fun w hw => htA w (hat_0 w hw)) (by decide +kernel) (vx_c (va_Nw.use rfl (hnw _ n_27)) (vx_c (va_Nw.use rfl (hnw _ n_28)) (vx_c (va_Nw.use rfl (hnw _ n_29)) (vx_c (va_Nw.use rfl (hnw _ n_30)) vx_n))))) (by decide +kernel) hZU hZN hS (hl.1.trans hml.symm) d_O_part_70 d_O_part_73 d_O_part_74 d_O_part_76 d_O_part_79 (fun x hx9 => (htab x hx9).elim) (Nat.le_of_ble_eq_true rfl) (Nat.le_of_ble_eq_true rfl) (Nat.le_of_ble_eq_true rfl) (Nat.le_of_ble_eq_true rfl) hlocks (fun t ha hsz hk => ⟨(), trivial, ⟨Or.inr ⟨hE, rfl⟩, hP9.kept (fun k q hq => hk q.1 (hP9 k q hq).lt), hD9⟩, Nat.le_trans hS.1 hsz, fun q h1 h2 => (hk q (Nat.lt_of_lt_of_le h1 hS.1)).trans (hS.2.1 q h1 h2)⟩) hS.2.2 (Nat.le_of_ble_eq_true rfl) (Nat.le_of_ble_eq_true rfl)
  · skip
    have c_4 : ¬ (g_O_isRegister ir) = true := b2i_z c_4
    obtain ⟨sa, hstr⟩ := hsw _ s_2
    have hE : x_O_part ir iwh = 1 := by clear hP hD hl hS; unfold x_O_part; (try dsimp only); rw [if_neg c_4]
    have hP9 : va_P (dC, dI) classes [(aO, .inr (0, [.ref aT, .ref aF, .int cw, .int ts, .ref a1, .ref a2, .ref a3, .ref a4, .ref a5])), (aT, .inl (cI, 8, .inl fT)), (aF, .inl (cL, 8, .inr (.inl fF)))] H := hP.sub [0, 1, 2] rfl
    have hD9 : va_D A [(aO, .inr (0, [.ref aT, .ref aF, .int cw, .int ts, .ref a1, .ref a2, .ref a3, .ref a4, .ref a5])), (aT, .inl (cI, 8, .inl fT)), (aF, .inl (cL, 8, .inr (.inl fF)))] := hD.sub [0, 1, 2] (by decide) rfl
    exact vx_throwS (own := R_O) (cls := "java/lang/IndexOutOfBoundsException") (names := ["java/lang/RuntimeException", "java/lang/Exception"]) hx hb hl9 hown (by decide +kernel) (by decide +kernel) (htA _ k_214) (htA _ k_215) hstr (vx_hat (L := vx_atS R_O 65 "java/lang/IndexOutOfBoundsException" ["java/lang/RuntimeException", "java/lang/Exception"]) (B := [.castable "java/lang/IndexOutOfBoundsException" "java/lang/IndexOutOfBoundsException", .declares ⟨"java/lang/RuntimeException", "<init>", "(Ljava/lang/String;)V"⟩, .declares ⟨"java/lang/Exception", "<init>", "(Ljava/lang/String;)V"⟩, .declares ⟨"java/lang/Throwable", "<init>", "(Ljava/lang/String;)V"⟩]) (fun w hw => htA w (hat_1 w hw)) (by decide +kernel) (vx_c (va_Nw.use rfl (hnw _ n_31)) (vx_c (va_Nw.use rfl (hnw _ n_28)) (vx_c (va_Nw.use rfl (hnw _ n_29)) (vx_c (va_Nw.use rfl (hnw _ n_30)) vx_n))))) (by decide +kernel) hZU hZN hS (hl.1.trans hml.symm) d_O_part_7 d_O_part_10 d_O_part_11 d_O_part_13 d_O_part_16 (fun x hx9 => (htab x hx9).elim) (Nat.le_of_ble_eq_true rfl) (Nat.le_of_ble_eq_true rfl) (Nat.le_of_ble_eq_true rfl) (Nat.le_of_ble_eq_true rfl) hlocks (fun t ha hsz hk => ⟨(), trivial, ⟨Or.inl ⟨hE, rfl⟩, hP9.kept (fun k q hq => hk q.1 (hP9 k q hq).lt), hD9⟩, Nat.le_trans hS.1 hsz, fun q h1 h2 => (hk q (Nat.lt_of_lt_of_le h1 hS.1)).trans (hS.2.1 q h1 h2)⟩) hS.2.2 (Nat.le_of_ble_eq_true rfl) (Nat.le_of_ble_eq_true rfl)
