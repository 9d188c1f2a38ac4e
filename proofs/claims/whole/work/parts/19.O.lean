theorem d_O_answerNoNumber_0 : decode b_O_answerNoNumber 0 = .ok (.aload_n 0, 1) := by decide +kernel
theorem d_O_answerNoNumber_1 : decode b_O_answerNoNumber 1 = .ok (.getfield 27, 3) := by decide +kernel
theorem d_O_answerNoNumber_4 : decode b_O_answerNoNumber 4 = .ok (.invokevirtual 101, 3) := by decide +kernel
theorem d_O_answerNoNumber_7 : decode b_O_answerNoNumber 7 = .ok (.ifCond .ne 7, 3) := by decide +kernel
theorem d_O_answerNoNumber_14 : decode b_O_answerNoNumber 14 = .ok (.iconst 0, 1) := by decide +kernel
theorem d_O_answerNoNumber_15 : decode b_O_answerNoNumber 15 = .ok (.istore_n 1, 1) := by decide +kernel
theorem d_O_answerNoNumber_16 : decode b_O_answerNoNumber 16 = .ok (.aload_n 0, 1) := by decide +kernel
theorem d_O_answerNoNumber_17 : decode b_O_answerNoNumber 17 = .ok (.getfield 27, 3) := by decide +kernel
theorem d_O_answerNoNumber_20 : decode b_O_answerNoNumber 20 = .ok (.invokevirtual 101, 3) := by decide +kernel
theorem d_O_answerNoNumber_23 : decode b_O_answerNoNumber 23 = .ok (.ifCond .eq 55, 3) := by decide +kernel
theorem d_O_answerNoNumber_78 : decode b_O_answerNoNumber 78 = .ok (.iload_n 1, 1) := by decide +kernel
theorem d_O_answerNoNumber_79 : decode b_O_answerNoNumber 79 = .ok (.ifCond .eq 10, 3) := by decide +kernel
theorem d_O_answerNoNumber_89 : decode b_O_answerNoNumber 89 = .ok (.aload_n 0, 1) := by decide +kernel
theorem d_O_answerNoNumber_90 : decode b_O_answerNoNumber 90 = .ok (.getfield 27, 3) := by decide +kernel
theorem d_O_answerNoNumber_93 : decode b_O_answerNoNumber 93 = .ok (.astore_n 2, 1) := by decide +kernel
theorem d_O_answerNoNumber_94 : decode b_O_answerNoNumber 94 = .ok (.aload_n 0, 1) := by decide +kernel
theorem d_O_answerNoNumber_95 : decode b_O_answerNoNumber 95 = .ok (.getfield 34, 3) := by decide +kernel
theorem d_O_answerNoNumber_98 : decode b_O_answerNoNumber 98 = .ok (.aload_n 2, 1) := by decide +kernel
theorem d_O_answerNoNumber_99 : decode b_O_answerNoNumber 99 = .ok (.getfield 108, 3) := by decide +kernel
theorem d_O_answerNoNumber_102 : decode b_O_answerNoNumber 102 = .ok (.aload_n 2, 1) := by decide +kernel
theorem d_O_answerNoNumber_103 : decode b_O_answerNoNumber 103 = .ok (.getfield 155, 3) := by decide +kernel
theorem d_O_answerNoNumber_106 : decode b_O_answerNoNumber 106 = .ok (.aload_n 2, 1) := by decide +kernel
theorem d_O_answerNoNumber_107 : decode b_O_answerNoNumber 107 = .ok (.getfield 89, 3) := by decide +kernel
theorem d_O_answerNoNumber_110 : decode b_O_answerNoNumber 110 = .ok (.invokevirtual 117, 3) := by decide +kernel
theorem d_O_answerNoNumber_113 : decode b_O_answerNoNumber 113 = .ok (.return_, 1) := by decide +kernel
theorem d_O_answerNoNumber_26 : decode b_O_answerNoNumber 26 = .ok (.aload_n 0, 1) := by decide +kernel
theorem d_O_answerNoNumber_27 : decode b_O_answerNoNumber 27 = .ok (.getfield 31, 3) := by decide +kernel
theorem d_O_answerNoNumber_30 : decode b_O_answerNoNumber 30 = .ok (.invokevirtual 101, 3) := by decide +kernel
theorem d_O_answerNoNumber_33 : decode b_O_answerNoNumber 33 = .ok (.ifCond .eq 45, 3) := by decide +kernel
theorem d_O_answerNoNumber_36 : decode b_O_answerNoNumber 36 = .ok (.aload_n 0, 1) := by decide +kernel
theorem d_O_answerNoNumber_37 : decode b_O_answerNoNumber 37 = .ok (.getfield 31, 3) := by decide +kernel
theorem d_O_answerNoNumber_40 : decode b_O_answerNoNumber 40 = .ok (.getfield 89, 3) := by decide +kernel
theorem d_O_answerNoNumber_43 : decode b_O_answerNoNumber 43 = .ok (.aload_n 0, 1) := by decide +kernel
theorem d_O_answerNoNumber_44 : decode b_O_answerNoNumber 44 = .ok (.getfield 27, 3) := by decide +kernel
theorem d_O_answerNoNumber_47 : decode b_O_answerNoNumber 47 = .ok (.getfield 89, 3) := by decide +kernel
theorem d_O_answerNoNumber_50 : decode b_O_answerNoNumber 50 = .ok (.invokestatic 149, 3) := by decide +kernel
theorem d_O_answerNoNumber_53 : decode b_O_answerNoNumber 53 = .ok (.istore_n 2, 1) := by decide +kernel
theorem d_O_answerNoNumber_54 : decode b_O_answerNoNumber 54 = .ok (.iload_n 2, 1) := by decide +kernel
theorem d_O_answerNoNumber_55 : decode b_O_answerNoNumber 55 = .ok (.ifCond .gt 17, 3) := by decide +kernel
theorem d_O_answerNoNumber_72 : decode b_O_answerNoNumber 72 = .ok (.iconst 1, 1) := by decide +kernel
theorem d_O_answerNoNumber_73 : decode b_O_answerNoNumber 73 = .ok (.goto 4, 3) := by decide +kernel
theorem d_O_answerNoNumber_77 : decode b_O_answerNoNumber 77 = .ok (.istore_n 1, 1) := by decide +kernel
theorem d_O_answerNoNumber_82 : decode b_O_answerNoNumber 82 = .ok (.aload_n 0, 1) := by decide +kernel
theorem d_O_answerNoNumber_83 : decode b_O_answerNoNumber 83 = .ok (.getfield 31, 3) := by decide +kernel
theorem d_O_answerNoNumber_86 : decode b_O_answerNoNumber 86 = .ok (.goto 7, 3) := by decide +kernel
theorem d_O_answerNoNumber_58 : decode b_O_answerNoNumber 58 = .ok (.iload_n 2, 1) := by decide +kernel
theorem d_O_answerNoNumber_59 : decode b_O_answerNoNumber 59 = .ok (.ifCond .ne 17, 3) := by decide +kernel
theorem d_O_answerNoNumber_76 : decode b_O_answerNoNumber 76 = .ok (.iconst 0, 1) := by decide +kernel
theorem d_O_answerNoNumber_62 : decode b_O_answerNoNumber 62 = .ok (.aload_n 0, 1) := by decide +kernel
theorem d_O_answerNoNumber_63 : decode b_O_answerNoNumber 63 = .ok (.getfield 27, 3) := by decide +kernel
theorem d_O_answerNoNumber_66 : decode b_O_answerNoNumber 66 = .ok (.getfield 108, 3) := by decide +kernel
theorem d_O_answerNoNumber_69 : decode b_O_answerNoNumber 69 = .ok (.ifCond .eq 7, 3) := by decide +kernel
theorem d_O_answerNoNumber_10 : decode b_O_answerNoNumber 10 = .ok (.iconst 1, 1) := by decide +kernel
theorem d_O_answerNoNumber_11 : decode b_O_answerNoNumber 11 = .ok (.goto 4, 3) := by decide +kernel
set_option maxHeartbeats 4000000 in
set_option maxRecDepth 100000 in
theorem c_O_answerNoNumber (l : Launch) (dC : Nat → ClassId) (dI : Nat → Nat → Nat) (aO : Nat) (a1 : Nat) (a2 : Nat) (a3 : Nat) (aT : Nat) (aF : Nat) (a4 : Nat) (a5 : Nat) (sz : Nat) (cw : Int32) (ts : Int32) (n1 : Bool) (p1 : Int32) (f1 : Int64) (n2 : Bool) (p2 : Int32) (f2 : Int64) (n3 : Bool) (p3 : Int32) (f3 : Int64) : Met l y_O_answerNoNumber w_O_answerNoNumber ({ frames := 2, cells := 0, slots := 0, locals := 46 }) (cPc (dC, dI) [] [.ref aO] [(aO, .inr (0, [.ref aT, .ref aF, .int cw, .int ts, .ref a1, .ref a2, .ref a3, .ref a4, .ref a5])), (a1, .inr (1, [.int (b2i n1), .int p1, .long f1])), (a2, .inr (1, [.int (b2i n2), .int p2, .long f2])), (a3, .inr (1, [.int (b2i n3), .int p3, .long f3]))] sz) (va_Qv (fun (_ : Unit) => True) (fun _ t => va_P (dC, dI) classes [(aO, .inr (0, [.ref aT, .ref aF, .int cw, .int ts, .ref a1, .ref a2, .ref a3, .ref a4, .ref a5])), (a1, .inr (1, [.int (b2i n1), .int p1, .long f1])), (a2, .inr (1, [.int (b2i n2), .int p2, .long f2])), (a3, .inr (1, [.int (b2i ((g_O_answerNoNumber n1 p1 f1 n2 p2 f2).1)), .int ((g_O_answerNoNumber n1 p1 f1 n2 p2 f2).2.1), .long ((g_O_answerNoNumber n1 p1 f1 n2 p2 f2).2.2)]))] t.heap ∧ va_D (va_A [(aO, .inr (0, [.ref aT, .ref aF, .int cw, .int ts, .ref a1, .ref a2, .ref a3, .ref a4, .ref a5])), (a1, .inr (1, [.int (b2i n1), .int p1, .long f1])), (a2, .inr (1, [.int (b2i n2), .int p2, .long f2])), (a3, .inr (1, [.int (b2i n3), .int p3, .long f3]))] sz) [(aO, .inr (0, [.ref aT, .ref aF, .int cw, .int ts, .ref a1, .ref a2, .ref a3, .ref a4, .ref a5])), (a1, .inr (1, [.int (b2i n1), .int p1, .long f1])), (a2, .inr (1, [.int (b2i n2), .int p2, .long f2])), (a3, .inr (1, [.int (b2i ((g_O_answerNoNumber n1 p1 f1 n2 p2 f2).1)), .int ((g_O_answerNoNumber n1 p1 f1 n2 p2 f2).2.1), .long ((g_O_answerNoNumber n1 p1 f1 n2 p2 f2).2.2)]))]) (va_A [(aO, .inr (0, [.ref aT, .ref aF, .int cw, .int ts, .ref a1, .ref a2, .ref a3, .ref a4, .ref a5])), (a1, .inr (1, [.int (b2i n1), .int p1, .long f1])), (a2, .inr (1, [.int (b2i n2), .int p2, .long f2])), (a3, .inr (1, [.int (b2i n3), .int p3, .long f3]))] sz)) 0 0 (va_A [(aO, .inr (0, [.ref aT, .ref aF, .int cw, .int ts, .ref a1, .ref a2, .ref a3, .ref a4, .ref a5])), (a1, .inr (1, [.int (b2i n1), .int p1, .long f1])), (a2, .inr (1, [.int (b2i n2), .int p2, .long f2])), (a3, .inr (1, [.int (b2i n3), .int p3, .long f3]))] sz) := by
  refine Met.ofW (cc := b_O_answerNoNumber) (maxL := 3) (ret := none) (by decide) rfl ?_
  intro p e s m args below meth c s₁ B hml hv
  obtain ⟨rfl, hsz, hP, hK, hD0, hnw⟩ := hv
  have hx := B.exec
  have hb := B.bytes
  have hr := B.returns
  have hts := atoms_spec (ws := w_O_answerNoNumber) B.pre
  have htA : ∀ w ∈ wAll, w.before _ s = true := fun w h => hts w (List.mem_cons_of_mem _ h)
  have hown : s.vm.findClass R_O = some m.cls := findClass_of_methodNamed B.named
  have hlocks := B.notSynchronized
  subst hsz
  have hD := hD0.self (sz := s.heap.size)
  generalize hAe : va_A [(aO, .inr (0, [.ref aT, .ref aF, .int cw, .int ts, .ref a1, .ref a2, .ref a3, .ref a4, .ref a5])), (a1, .inr (1, [.int (b2i n1), .int p1, .long f1])), (a2, .inr (1, [.int (b2i n2), .int p2, .long f2])), (a3, .inr (1, [.int (b2i n3), .int p3, .long f3]))] s.heap.size = A at hD ⊢
  have hA : ∀ q : Nat, s.heap.size ≤ q → A q := fun q h => by rw [← hAe]; exact Or.inr h
  have hS : va_S A s.heap s.heap [] := va_S.rf
  have hP : va_P (dC, dI) classes [(aO, .inr (0, [.ref aT, .ref aF, .int cw, .int ts, .ref a1, .ref a2, .ref a3, .ref a4, .ref a5])), (a1, .inr (1, [.int (b2i n1), .int p1, .long f1])), (a2, .inr (1, [.int (b2i n2), .int p2, .long f2])), (a3, .inr (1, [.int (b2i n3), .int p3, .long f3]))] s.heap := hP
  obtain ⟨H, eH⟩ : ∃ z, z = s.heap := ⟨_, rfl⟩
  rw [← eH] at hP
  have hS : va_S A s.heap H [] := by rw [eH]; exact hS
  rw [← eH]
  generalize ([] : List Loc) = locs at hS ⊢
  have hl := lv_entry ([.ref aO]) (n := 3) (Nat.le_of_ble_eq_true rfl)
  rw [lg_entry_eq]
  generalize (lg_sl ([.ref aO]) ++ List.replicate (3 - (lg_sl ([.ref aO])).length) Slot.unset).toArray = ls at hl ⊢
  have hl : lv_has ls 3 [(0, .ref aO)] := hl
  refine lv_aload_n hx hb d_O_answerNoNumber_0 rfl (lv_at hl 0 rfl) ?_
  refine va_get (D := (dC, dI)) (ci := 0) (v := .ref a1) (C := R_O) (T := F_O) (N := 9) hx hb htA in_O hown hK hP 0 rfl rfl 4 (by decide) (htA _ k_104) (fun _ h9 => h9) rfl d_O_answerNoNumber_1 ?_
  have hPc := hP.sub (ws' := [(a1, .inr (1, [.int (b2i n1), .int p1, .long f1]))]) [1] rfl
  have hDc := hD.sub (ws' := [(a1, .inr (1, [.int (b2i n1), .int p1, .long f1]))]) [1] (by decide) rfl
  have hKc := hK.sub (tys' := []) [] rfl
  have hFc := va_free (wc := [(a1, .inr (1, [.int (b2i n1), .int p1, .long f1]))]) hD hS hA [1] rfl
  refine cc_i (va_runVN (As := []) (rest := []) ⟨hx, hb, hml, hown, htA⟩ (c_R_isNoNumber l dC dI a1 H.size n1 p1 f1) ⟨va_cnB 0 htA (gi_code k_29) rfl rfl rfl (hnw _ n_9) (htA _ k_20) (by decide +kernel) ⟨Nat.le_of_ble_eq_true rfl, Nat.le_of_ble_eq_true rfl⟩, htA _ k_126, htA _ k_127⟩ (pre_V hnw hPc hKc hDc (ci := 1) (q0 := 0) rfl rfl) rfl rfl hl.1 rfl (lv_room (Nat.le_of_ble_eq_true rfl)) d_O_answerNoNumber_4 ⟨Nat.le_of_ble_eq_true rfl, Nat.le_of_ble_eq_true rfl⟩) hS hFc hP hD [1] [0, 2, 3] (wr := [(aO, .inr (0, [.ref aT, .ref aF, .int cw, .int ts, .ref a1, .ref a2, .ref a3, .ref a4, .ref a5])), (a2, .inr (1, [.int (b2i n2), .int p2, .long f2])), (a3, .inr (1, [.int (b2i n3), .int p3, .long f3]))]) rfl rfl (by decide) (by decide) (fun H locs hP hD hS => ?_)
  have hP : va_P (dC, dI) classes [(aO, .inr (0, [.ref aT, .ref aF, .int cw, .int ts, .ref a1, .ref a2, .ref a3, .ref a4, .ref a5])), (a2, .inr (1, [.int (b2i n2), .int p2, .long f2])), (a3, .inr (1, [.int (b2i n3), .int p3, .long f3])), (a1, .inr (1, [.int (b2i n1), .int p1, .long f1]))] H := hP
  have hD : va_D A [(aO, .inr (0, [.ref aT, .ref aF, .int cw, .int ts, .ref a1, .ref a2, .ref a3, .ref a4, .ref a5])), (a2, .inr (1, [.int (b2i n2), .int p2, .long f2])), (a3, .inr (1, [.int (b2i n3), .int p3, .long f3])), (a1, .inr (1, [.int (b2i n1), .int p1, .long f1]))] := hD
  refine lv_if_ne (tgt := 14) hx hb d_O_answerNoNumber_7 (by decide) (fun c_7 => ?_) (fun c_7 => ?_)
  · skip
    have c_7 : (g_R_isNoNumber p1 f1) = true := b2i_nz c_7
    refine lv_iconst (v := 0) hx hb d_O_answerNoNumber_14 (by decide) ?_
    refine lv_istore_n (lv' := [(1, .int 0), (0, .ref aO)]) hx hb d_O_answerNoNumber_15 rfl hl (by decide) rfl (fun ls hl => ?_)
    refine lv_aload_n hx hb d_O_answerNoNumber_16 rfl (lv_at hl 1 rfl) ?_
    refine va_get (D := (dC, dI)) (ci := 0) (v := .ref a1) (C := R_O) (T := F_O) (N := 9) hx hb htA in_O hown hK hP 0 rfl rfl 4 (by decide) (htA _ k_104) (fun _ h9 => h9) rfl d_O_answerNoNumber_17 ?_
    have hPc := hP.sub (ws' := [(a1, .inr (1, [.int (b2i n1), .int p1, .long f1]))]) [3] rfl
    have hDc := hD.sub (ws' := [(a1, .inr (1, [.int (b2i n1), .int p1, .long f1]))]) [3] (by decide) rfl
    have hKc := hK.sub (tys' := []) [] rfl
    have hFc := va_free (wc := [(a1, .inr (1, [.int (b2i n1), .int p1, .long f1]))]) hD hS hA [3] rfl
    refine cc_i (va_runVN (As := []) (rest := []) ⟨hx, hb, hml, hown, htA⟩ (c_R_isNoNumber l dC dI a1 H.size n1 p1 f1) ⟨va_cnB 0 htA (gi_code k_29) rfl rfl rfl (hnw _ n_9) (htA _ k_20) (by decide +kernel) ⟨Nat.le_of_ble_eq_true rfl, Nat.le_of_ble_eq_true rfl⟩, htA _ k_126, htA _ k_127⟩ (pre_V hnw hPc hKc hDc (ci := 1) (q0 := 0) rfl rfl) rfl rfl hl.1 rfl (lv_room (Nat.le_of_ble_eq_true rfl)) d_O_answerNoNumber_20 ⟨Nat.le_of_ble_eq_true rfl, Nat.le_of_ble_eq_true rfl⟩) hS hFc hP hD [3] [0, 1, 2] (wr := [(aO, .inr (0, [.ref aT, .ref aF, .int cw, .int ts, .ref a1, .ref a2, .ref a3, .ref a4, .ref a5])), (a2, .inr (1, [.int (b2i n2), .int p2, .long f2])), (a3, .inr (1, [.int (b2i n3), .int p3, .long f3]))]) rfl rfl (by decide) (by decide) (fun H locs hP hD hS => ?_)
    have hP : va_P (dC, dI) classes [(aO, .inr (0, [.ref aT, .ref aF, .int cw, .int ts, .ref a1, .ref a2, .ref a3, .ref a4, .ref a5])), (a2, .inr (1, [.int (b2i n2), .int p2, .long f2])), (a3, .inr (1, [.int (b2i n3), .int p3, .long f3])), (a1, .inr (1, [.int (b2i n1), .int p1, .long f1]))] H := hP
    have hD : va_D A [(aO, .inr (0, [.ref aT, .ref aF, .int cw, .int ts, .ref a1, .ref a2, .ref a3, .ref a4, .ref a5])), (a2, .inr (1, [.int (b2i n2), .int p2, .long f2])), (a3, .inr (1, [.int (b2i n3), .int p3, .long f3])), (a1, .inr (1, [.int (b2i n1), .int p1, .long f1]))] := hD
    refine lv_if_eq (tgt := 78) hx hb d_O_answerNoNumber_23 (by decide) (fun c_23 => ?_) (fun c_23 => ?_)
    · skip
      have c_23 : ¬ (g_R_isNoNumber p1 f1) = true := b2i_z c_23
      refine lv_iload_n hx hb d_O_answerNoNumber_78 rfl (lv_at hl 0 rfl) ?_
      refine lv_if_eq (tgt := 89) hx hb d_O_answerNoNumber_79 (by decide) (fun _ => ?_) (fun c_79 => absurd c_79 (by decide))
      refine lv_aload_n hx hb d_O_answerNoNumber_89 rfl (lv_at hl 1 rfl) ?_
      refine va_get (D := (dC, dI)) (ci := 0) (v := .ref a1) (C := R_O) (T := F_O) (N := 9) hx hb htA in_O hown hK hP 0 rfl rfl 4 (by decide) (htA _ k_104) (fun _ h9 => h9) rfl d_O_answerNoNumber_90 ?_
      refine lv_astore_n (lv' := [(2, .ref a1), (1, .int 0), (0, .ref aO)]) hx hb d_O_answerNoNumber_93 rfl hl (by decide) rfl (fun ls hl => ?_)
      refine lv_aload_n hx hb d_O_answerNoNumber_94 rfl (lv_at hl 2 rfl) ?_
      refine va_get (D := (dC, dI)) (ci := 0) (v := .ref a3) (C := R_O) (T := F_O) (N := 9) hx hb htA in_O hown hK hP 0 rfl rfl 6 (by decide) (htA _ k_128) (fun _ h9 => h9) rfl d_O_answerNoNumber_95 ?_
      refine lv_aload_n hx hb d_O_answerNoNumber_98 rfl (lv_at hl 0 rfl) ?_
      refine va_getN (D := (dC, dI)) (ci := 1) (v := .int (b2i n1)) (C := R_R) (T := F_R) (N := 3) hx hb htA in_R hown hK hP 3 rfl rfl 0 (by decide) (va_Nw.use rfl (hnw _ n_5)) (fun _ h9 => h9) rfl d_O_answerNoNumber_99 ?_
      refine lv_aload_n hx hb d_O_answerNoNumber_102 rfl (lv_at hl 0 rfl) ?_
      refine va_getN (D := (dC, dI)) (ci := 1) (v := .int p1) (C := R_R) (T := F_R) (N := 3) hx hb htA in_R hown hK hP 3 rfl rfl 1 (by decide) (va_Nw.use rfl (hnw _ n_10)) (fun _ h9 => h9) rfl d_O_answerNoNumber_103 ?_
      refine lv_aload_n hx hb d_O_answerNoNumber_106 rfl (lv_at hl 0 rfl) ?_
      refine va_getN (D := (dC, dI)) (ci := 1) (v := .long f1) (C := R_R) (T := F_R) (N := 3) hx hb htA in_R hown hK hP 3 rfl rfl 2 (by decide) (va_Nw.use rfl (hnw _ n_11)) (fun _ h9 => h9) rfl d_O_answerNoNumber_107 ?_
      have hPc := hP.sub (ws' := [(a3, .inr (1, [.int (b2i n3), .int p3, .long f3]))]) [2] rfl
      have hDc := hD.sub (ws' := [(a3, .inr (1, [.int (b2i n3), .int p3, .long f3]))]) [2] (by decide) rfl
      have hKc := hK.sub (tys' := []) [] rfl
      have hFc := va_free (wc := [(a3, .inr (1, [.int (b2i n3), .int p3, .long f3]))]) hD hS hA [2] rfl
      refine cc_v (va_runVN (As := [.int (b2i n1), .int p1, .long f1]) (rest := []) ⟨hx, hb, hml, hown, htA⟩ (c_R_put l dC dI a3 H.size n3 p3 f3 n1 p1 f1) ⟨va_cnB 3 htA (gi_code k_18) rfl rfl rfl (hnw _ n_12) (htA _ k_20) (by decide +kernel) ⟨Nat.le_of_ble_eq_true rfl, Nat.le_of_ble_eq_true rfl⟩, htA _ k_22, htA _ k_23⟩ (pre_V hnw hPc hKc hDc (ci := 1) (q0 := 0) rfl rfl) rfl rfl hl.1 rfl (lv_room (Nat.le_of_ble_eq_true rfl)) d_O_answerNoNumber_110 ⟨Nat.le_of_ble_eq_true rfl, Nat.le_of_ble_eq_true rfl⟩) hS hFc hP hD [2] [0, 1, 3] (wr := [(aO, .inr (0, [.ref aT, .ref aF, .int cw, .int ts, .ref a1, .ref a2, .ref a3, .ref a4, .ref a5])), (a2, .inr (1, [.int (b2i n2), .int p2, .long f2])), (a1, .inr (1, [.int (b2i n1), .int p1, .long f1]))]) rfl rfl (by decide) (by decide) (fun H locs hP hD hS => ?_)
      have hP : va_P (dC, dI) classes [(aO, .inr (0, [.ref aT, .ref aF, .int cw, .int ts, .ref a1, .ref a2, .ref a3, .ref a4, .ref a5])), (a2, .inr (1, [.int (b2i n2), .int p2, .long f2])), (a1, .inr (1, [.int (b2i n1), .int p1, .long f1])), (a3, .inr (1, [.int (b2i n1), .int p1, .long f1]))] H := hP
      have hD : va_D A [(aO, .inr (0, [.ref aT, .ref aF, .int cw, .int ts, .ref a1, .ref a2, .ref a3, .ref a4, .ref a5])), (a2, .inr (1, [.int (b2i n2), .int p2, .long f2])), (a1, .inr (1, [.int (b2i n1), .int p1, .long f1])), (a3, .inr (1, [.int (b2i n1), .int p1, .long f1]))] := hD
      have hE : g_O_answerNoNumber n1 p1 f1 n2 p2 f2 = (n1, p1, f1) := by clear hP hD hl hS; unfold g_O_answerNoNumber; (try dsimp only); rw [if_pos c_7, if_neg c_23]
      have hP9 : va_P (dC, dI) classes [(aO, .inr (0, [.ref aT, .ref aF, .int cw, .int ts, .ref a1, .ref a2, .ref a3, .ref a4, .ref a5])), (a1, .inr (1, [.int (b2i n1), .int p1, .long f1])), (a2, .inr (1, [.int (b2i n2), .int p2, .long f2])), (a3, .inr (1, [.int (b2i ((g_O_answerNoNumber n1 p1 f1 n2 p2 f2).1)), .int ((g_O_answerNoNumber n1 p1 f1 n2 p2 f2).2.1), .long ((g_O_answerNoNumber n1 p1 f1 n2 p2 f2).2.2)]))] H := by rw [hE]; exact hP.sub [0, 2, 1, 3] rfl
      have hD9 : va_D A [(aO, .inr (0, [.ref aT, .ref aF, .int cw, .int ts, .ref a1, .ref a2, .ref a3, .ref a4, .ref a5])), (a1, .inr (1, [.int (b2i n1), .int p1, .long f1])), (a2, .inr (1, [.int (b2i n2), .int p2, .long f2])), (a3, .inr (1, [.int (b2i ((g_O_answerNoNumber n1 p1 f1 n2 p2 f2).1)), .int ((g_O_answerNoNumber n1 p1 f1 n2 p2 f2).2.1), .long ((g_O_answerNoNumber n1 p1 f1 n2 p2 f2).2.2)]))] := by rw [hE]; exact hD.sub [0, 2, 1, 3] (by decide) rfl
      exact W.vret hx hb hr (fun t ht hW => ⟨⟨(), rfl, trivial, by rw [ht]; exact hP9, hD9⟩, hS.F ht⟩) hS.2.2 d_O_answerNoNumber_113
    · skip
      have c_23 : (g_R_isNoNumber p1 f1) = true := b2i_nz c_23
      refine lv_aload_n hx hb d_O_answerNoNumber_26 rfl (lv_at hl 1 rfl) ?_
      refine va_get (D := (dC, dI)) (ci := 0) (v := .ref a2) (C := R_O) (T := F_O) (N := 9) hx hb htA in_O hown hK hP 0 rfl rfl 5 (by decide) (htA _ k_105) (fun _ h9 => h9) rfl d_O_answerNoNumber_27 ?_
      have hPc := hP.sub (ws' := [(a2, .inr (1, [.int (b2i n2), .int p2, .long f2]))]) [1] rfl
      have hDc := hD.sub (ws' := [(a2, .inr (1, [.int (b2i n2), .int p2, .long f2]))]) [1] (by decide) rfl
      have hKc := hK.sub (tys' := []) [] rfl
      have hFc := va_free (wc := [(a2, .inr (1, [.int (b2i n2), .int p2, .long f2]))]) hD hS hA [1] rfl
      refine cc_i (va_runVN (As := []) (rest := []) ⟨hx, hb, hml, hown, htA⟩ (c_R_isNoNumber l dC dI a2 H.size n2 p2 f2) ⟨va_cnB 0 htA (gi_code k_29) rfl rfl rfl (hnw _ n_9) (htA _ k_20) (by decide +kernel) ⟨Nat.le_of_ble_eq_true rfl, Nat.le_of_ble_eq_true rfl⟩, htA _ k_126, htA _ k_127⟩ (pre_V hnw hPc hKc hDc (ci := 1) (q0 := 0) rfl rfl) rfl rfl hl.1 rfl (lv_room (Nat.le_of_ble_eq_true rfl)) d_O_answerNoNumber_30 ⟨Nat.le_of_ble_eq_true rfl, Nat.le_of_ble_eq_true rfl⟩) hS hFc hP hD [1] [0, 2, 3] (wr := [(aO, .inr (0, [.ref aT, .ref aF, .int cw, .int ts, .ref a1, .ref a2, .ref a3, .ref a4, .ref a5])), (a3, .inr (1, [.int (b2i n3), .int p3, .long f3])), (a1, .inr (1, [.int (b2i n1), .int p1, .long f1]))]) rfl rfl (by decide) (by decide) (fun H locs hP hD hS => ?_)
      have hP : va_P (dC, dI) classes [(aO, .inr (0, [.ref aT, .ref aF, .int cw, .int ts, .ref a1, .ref a2, .ref a3, .ref a4, .ref a5])), (a3, .inr (1, [.int (b2i n3), .int p3, .long f3])), (a1, .inr (1, [.int (b2i n1), .int p1, .long f1])), (a2, .inr (1, [.int (b2i n2), .int p2, .long f2]))] H := hP
      have hD : va_D A [(aO, .inr (0, [.ref aT, .ref aF, .int cw, .int ts, .ref a1, .ref a2, .ref a3, .ref a4, .ref a5])), (a3, .inr (1, [.int (b2i n3), .int p3, .long f3])), (a1, .inr (1, [.int (b2i n1), .int p1, .long f1])), (a2, .inr (1, [.int (b2i n2), .int p2, .long f2]))] := hD
      refine lv_if_eq (tgt := 78) hx hb d_O_answerNoNumber_33 (by decide) (fun c_33 => ?_) (fun c_33 => ?_)
      · skip
        have c_33 : ¬ (g_R_isNoNumber p2 f2) = true := b2i_z c_33
        refine lv_iload_n hx hb d_O_answerNoNumber_78 rfl (lv_at hl 0 rfl) ?_
        refine lv_if_eq (tgt := 89) hx hb d_O_answerNoNumber_79 (by decide) (fun _ => ?_) (fun c_79 => absurd c_79 (by decide))
        refine lv_aload_n hx hb d_O_answerNoNumber_89 rfl (lv_at hl 1 rfl) ?_
        refine va_get (D := (dC, dI)) (ci := 0) (v := .ref a1) (C := R_O) (T := F_O) (N := 9) hx hb htA in_O hown hK hP 0 rfl rfl 4 (by decide) (htA _ k_104) (fun _ h9 => h9) rfl d_O_answerNoNumber_90 ?_
        refine lv_astore_n (lv' := [(2, .ref a1), (1, .int 0), (0, .ref aO)]) hx hb d_O_answerNoNumber_93 rfl hl (by decide) rfl (fun ls hl => ?_)
        refine lv_aload_n hx hb d_O_answerNoNumber_94 rfl (lv_at hl 2 rfl) ?_
        refine va_get (D := (dC, dI)) (ci := 0) (v := .ref a3) (C := R_O) (T := F_O) (N := 9) hx hb htA in_O hown hK hP 0 rfl rfl 6 (by decide) (htA _ k_128) (fun _ h9 => h9) rfl d_O_answerNoNumber_95 ?_
        refine lv_aload_n hx hb d_O_answerNoNumber_98 rfl (lv_at hl 0 rfl) ?_
        refine va_getN (D := (dC, dI)) (ci := 1) (v := .int (b2i n1)) (C := R_R) (T := F_R) (N := 3) hx hb htA in_R hown hK hP 2 rfl rfl 0 (by decide) (va_Nw.use rfl (hnw _ n_5)) (fun _ h9 => h9) rfl d_O_answerNoNumber_99 ?_
        refine lv_aload_n hx hb d_O_answerNoNumber_102 rfl (lv_at hl 0 rfl) ?_
        refine va_getN (D := (dC, dI)) (ci := 1) (v := .int p1) (C := R_R) (T := F_R) (N := 3) hx hb htA in_R hown hK hP 2 rfl rfl 1 (by decide) (va_Nw.use rfl (hnw _ n_10)) (fun _ h9 => h9) rfl d_O_answerNoNumber_103 ?_
        refine lv_aload_n hx hb d_O_answerNoNumber_106 rfl (lv_at hl 0 rfl) ?_
        refine va_getN (D := (dC, dI)) (ci := 1) (v := .long f1) (C := R_R) (T := F_R) (N := 3) hx hb htA in_R hown hK hP 2 rfl rfl 2 (by decide) (va_Nw.use rfl (hnw _ n_11)) (fun _ h9 => h9) rfl d_O_answerNoNumber_107 ?_
        have hPc := hP.sub (ws' := [(a3, .inr (1, [.int (b2i n3), .int p3, .long f3]))]) [1] rfl
        have hDc := hD.sub (ws' := [(a3, .inr (1, [.int (b2i n3), .int p3, .long f3]))]) [1] (by decide) rfl
        have hKc := hK.sub (tys' := []) [] rfl
        have hFc := va_free (wc := [(a3, .inr (1, [.int (b2i n3), .int p3, .long f3]))]) hD hS hA [1] rfl
        refine cc_v (va_runVN (As := [.int (b2i n1), .int p1, .long f1]) (rest := []) ⟨hx, hb, hml, hown, htA⟩ (c_R_put l dC dI a3 H.size n3 p3 f3 n1 p1 f1) ⟨va_cnB 3 htA (gi_code k_18) rfl rfl rfl (hnw _ n_12) (htA _ k_20) (by decide +kernel) ⟨Nat.le_of_ble_eq_true rfl, Nat.le_of_ble_eq_true rfl⟩, htA _ k_22, htA _ k_23⟩ (pre_V hnw hPc hKc hDc (ci := 1) (q0 := 0) rfl rfl) rfl rfl hl.1 rfl (lv_room (Nat.le_of_ble_eq_true rfl)) d_O_answerNoNumber_110 ⟨Nat.le_of_ble_eq_true rfl, Nat.le_of_ble_eq_true rfl⟩) hS hFc hP hD [1] [0, 2, 3] (wr := [(aO, .inr (0, [.ref aT, .ref aF, .int cw, .int ts, .ref a1, .ref a2, .ref a3, .ref a4, .ref a5])), (a1, .inr (1, [.int (b2i n1), .int p1, .long f1])), (a2, .inr (1, [.int (b2i n2), .int p2, .long f2]))]) rfl rfl (by decide) (by decide) (fun H locs hP hD hS => ?_)
        have hP : va_P (dC, dI) classes [(aO, .inr (0, [.ref aT, .ref aF, .int cw, .int ts, .ref a1, .ref a2, .ref a3, .ref a4, .ref a5])), (a1, .inr (1, [.int (b2i n1), .int p1, .long f1])), (a2, .inr (1, [.int (b2i n2), .int p2, .long f2])), (a3, .inr (1, [.int (b2i n1), .int p1, .long f1]))] H := hP
        have hD : va_D A [(aO, .inr (0, [.ref aT, .ref aF, .int cw, .int ts, .ref a1, .ref a2, .ref a3, .ref a4, .ref a5])), (a1, .inr (1, [.int (b2i n1), .int p1, .long f1])), (a2, .inr (1, [.int (b2i n2), .int p2, .long f2])), (a3, .inr (1, [.int (b2i n1), .int p1, .long f1]))] := hD
        have hE : g_O_answerNoNumber n1 p1 f1 n2 p2 f2 = (n1, p1, f1) := by clear hP hD hl hS; unfold g_O_answerNoNumber; (try dsimp only); rw [if_pos c_7, if_pos c_23, if_neg c_33]
        have hP9 : va_P (dC, dI) classes [(aO, .inr (0, [.ref aT, .ref aF, .int cw, .int ts, .ref a1, .ref a2, .ref a3, .ref a4, .ref a5])), (a1, .inr (1, [.int (b2i n1), .int p1, .long f1])), (a2, .inr (1, [.int (b2i n2), .int p2, .long f2])), (a3, .inr (1, [.int (b2i ((g_O_answerNoNumber n1 p1 f1 n2 p2 f2).1)), .int ((g_O_answerNoNumber n1 p1 f1 n2 p2 f2).2.1), .long ((g_O_answerNoNumber n1 p1 f1 n2 p2 f2).2.2)]))] H := by rw [hE]; exact hP.sub [0, 1, 2, 3] rfl
        have hD9 : va_D A [(aO, .inr (0, [.ref aT, .ref aF, .int cw, .int ts, .ref a1, .ref a2, .ref a3, .ref a4, .ref a5])), (a1, .inr (1, [.int (b2i n1), .int p1, .long f1])), (a2, .inr (1, [.int (b2i n2), .int p2, .long f2])), (a3, .inr (1, [.int (b2i ((g_O_answerNoNumber n1 p1 f1 n2 p2 f2).1)), .int ((g_O_answerNoNumber n1 p1 f1 n2 p2 f2).2.1), .long ((g_O_answerNoNumber n1 p1 f1 n2 p2 f2).2.2)]))] := by rw [hE]; exact hD.sub [0, 1, 2, 3] (by decide) rfl
        exact W.vret hx hb hr (fun t ht hW => ⟨⟨(), rfl, trivial, by rw [ht]; exact hP9, hD9⟩, hS.F ht⟩) hS.2.2 d_O_answerNoNumber_113
      · skip
        have c_33 : (g_R_isNoNumber p2 f2) = true := b2i_nz c_33
        refine lv_aload_n hx hb d_O_answerNoNumber_36 rfl (lv_at hl 1 rfl) ?_
        refine va_get (D := (dC, dI)) (ci := 0) (v := .ref a2) (C := R_O) (T := F_O) (N := 9) hx hb htA in_O hown hK hP 0 rfl rfl 5 (by decide) (htA _ k_105) (fun _ h9 => h9) rfl d_O_answerNoNumber_37 ?_
        refine va_getN (D := (dC, dI)) (ci := 1) (v := .long f2) (C := R_R) (T := F_R) (N := 3) hx hb htA in_R hown hK hP 3 rfl rfl 2 (by decide) (va_Nw.use rfl (hnw _ n_11)) (fun _ h9 => h9) rfl d_O_answerNoNumber_40 ?_
        refine lv_aload_n hx hb d_O_answerNoNumber_43 rfl (lv_at hl 1 rfl) ?_
        refine va_get (D := (dC, dI)) (ci := 0) (v := .ref a1) (C := R_O) (T := F_O) (N := 9) hx hb htA in_O hown hK hP 0 rfl rfl 4 (by decide) (htA _ k_104) (fun _ h9 => h9) rfl d_O_answerNoNumber_44 ?_
        refine va_getN (D := (dC, dI)) (ci := 1) (v := .long f1) (C := R_R) (T := F_R) (N := 3) hx hb htA in_R hown hK hP 2 rfl rfl 2 (by decide) (va_Nw.use rfl (hnw _ n_11)) (fun _ h9 => h9) rfl d_O_answerNoNumber_47 ?_
        have hPc := hP.sub (ws' := []) [] rfl
        have hDc := hD.sub (ws' := []) [] (by decide) rfl
        have hKc := hK.sub (tys' := []) [] rfl
        have hFc := va_free (wc := []) hD hS hA [] rfl
        refine cc_i (va_runS (As := [.long f2, .long f1]) (rest := []) ⟨hx, hb, hml, hown, htA⟩ (c_Lg_compareUnsigned l dC dI H.size f2 f1) (va_cwS 2 htA (gi_S k_129 k_34 k_2 (gi_code k_5)) rfl rfl rfl (by decide +kernel) ⟨Nat.le_of_ble_eq_true rfl, Nat.le_of_ble_eq_true rfl⟩) (pre_S hnw hPc hKc hDc) rfl rfl hl.1 rfl (lv_room (Nat.le_of_ble_eq_true rfl)) d_O_answerNoNumber_50 ⟨Nat.le_of_ble_eq_true rfl, Nat.le_of_ble_eq_true rfl⟩) hS hFc hP hD [] [0, 1, 2, 3] (wr := [(aO, .inr (0, [.ref aT, .ref aF, .int cw, .int ts, .ref a1, .ref a2, .ref a3, .ref a4, .ref a5])), (a3, .inr (1, [.int (b2i n3), .int p3, .long f3])), (a1, .inr (1, [.int (b2i n1), .int p1, .long f1])), (a2, .inr (1, [.int (b2i n2), .int p2, .long f2]))]) rfl rfl (by decide) (by decide) (fun H locs hP hD hS => ?_)
        have hP : va_P (dC, dI) classes [(aO, .inr (0, [.ref aT, .ref aF, .int cw, .int ts, .ref a1, .ref a2, .ref a3, .ref a4, .ref a5])), (a3, .inr (1, [.int (b2i n3), .int p3, .long f3])), (a1, .inr (1, [.int (b2i n1), .int p1, .long f1])), (a2, .inr (1, [.int (b2i n2), .int p2, .long f2]))] H := hP
        have hD : va_D A [(aO, .inr (0, [.ref aT, .ref aF, .int cw, .int ts, .ref a1, .ref a2, .ref a3, .ref a4, .ref a5])), (a3, .inr (1, [.int (b2i n3), .int p3, .long f3])), (a1, .inr (1, [.int (b2i n1), .int p1, .long f1])), (a2, .inr (1, [.int (b2i n2), .int p2, .long f2]))] := hD
        refine lv_istore_n (lv' := [(2, .int (g_Lg_compareUnsigned f2 f1)), (1, .int 0), (0, .ref aO)]) hx hb d_O_answerNoNumber_53 rfl hl (by decide) rfl (fun ls hl => ?_)
        refine lv_iload_n hx hb d_O_answerNoNumber_54 rfl (lv_at hl 0 rfl) ?_
        refine lv_if_gt (tgt := 72) hx hb d_O_answerNoNumber_55 (by decide) (fun c_55 => ?_) (fun c_55 => ?_)
        · skip
          have c_55 : uN f1 < uN f2 := (cU_gt _ _).mp c_55
          refine lv_iconst (v := 1) hx hb d_O_answerNoNumber_72 (by decide) ?_
          refine lv_goto (tgt := 77) hx hb d_O_answerNoNumber_73 (by decide) ?_
          refine lv_istore_n (lv' := [(1, .int 1), (2, .int (g_Lg_compareUnsigned f2 f1)), (0, .ref aO)]) hx hb d_O_answerNoNumber_77 rfl hl (by decide) rfl (fun ls hl => ?_)
          refine lv_iload_n hx hb d_O_answerNoNumber_78 rfl (lv_at hl 0 rfl) ?_
          refine lv_if_eq (tgt := 89) hx hb d_O_answerNoNumber_79 (by decide) (fun c_79 => absurd c_79 (by decide)) (fun _ => ?_)
          refine lv_aload_n hx hb d_O_answerNoNumber_82 rfl (lv_at hl 2 rfl) ?_
          refine va_get (D := (dC, dI)) (ci := 0) (v := .ref a2) (C := R_O) (T := F_O) (N := 9) hx hb htA in_O hown hK hP 0 rfl rfl 5 (by decide) (htA _ k_105) (fun _ h9 => h9) rfl d_O_answerNoNumber_83 ?_
          refine lv_goto (tgt := 93) hx hb d_O_answerNoNumber_86 (by decide) ?_
          refine lv_astore_n (lv' := [(2, .ref a2), (1, .int 1), (0, .ref aO)]) hx hb d_O_answerNoNumber_93 rfl hl (by decide) rfl (fun ls hl => ?_)
          refine lv_aload_n hx hb d_O_answerNoNumber_94 rfl (lv_at hl 2 rfl) ?_
          refine va_get (D := (dC, dI)) (ci := 0) (v := .ref a3) (C := R_O) (T := F_O) (N := 9) hx hb htA in_O hown hK hP 0 rfl rfl 6 (by decide) (htA _ k_128) (fun _ h9 => h9) rfl d_O_answerNoNumber_95 ?_
          refine lv_aload_n hx hb d_O_answerNoNumber_98 rfl (lv_at hl 0 rfl) ?_
          refine va_getN (D := (dC, dI)) (ci := 1) (v := .int (b2i n2)) (C := R_R) (T := F_R) (N := 3) hx hb htA in_R hown hK hP 3 rfl rfl 0 (by decide) (va_Nw.use rfl (hnw _ n_5)) (fun _ h9 => h9) rfl d_O_answerNoNumber_99 ?_
          refine lv_aload_n hx hb d_O_answerNoNumber_102 rfl (lv_at hl 0 rfl) ?_
          refine va_getN (D := (dC, dI)) (ci := 1) (v := .int p2) (C := R_R) (T := F_R) (N := 3) hx hb htA in_R hown hK hP 3 rfl rfl 1 (by decide) (va_Nw.use rfl (hnw _ n_10)) (fun _ h9 => h9) rfl d_O_answerNoNumber_103 ?_
          refine lv_aload_n hx hb d_O_answerNoNumber_106 rfl (lv_at hl 0 rfl) ?_
          refine va_getN (D := (dC, dI)) (ci := 1) (v := .long f2) (C := R_R) (T := F_R) (N := 3) hx hb htA in_R hown hK hP 3 rfl rfl 2 (by decide) (va_Nw.use rfl (hnw _ n_11)) (fun _ h9 => h9) rfl d_O_answerNoNumber_107 ?_
          have hPc := hP.sub (ws' := [(a3, .inr (1, [.int (b2i n3), .int p3, .long f3]))]) [1] rfl
          have hDc := hD.sub (ws' := [(a3, .inr (1, [.int (b2i n3), .int p3, .long f3]))]) [1] (by decide) rfl
          have hKc := hK.sub (tys' := []) [] rfl
          have hFc := va_free (wc := [(a3, .inr (1, [.int (b2i n3), .int p3, .long f3]))]) hD hS hA [1] rfl
          refine cc_v (va_runVN (As := [.int (b2i n2), .int p2, .long f2]) (rest := []) ⟨hx, hb, hml, hown, htA⟩ (c_R_put l dC dI a3 H.size n3 p3 f3 n2 p2 f2) ⟨va_cnB 3 htA (gi_code k_18) rfl rfl rfl (hnw _ n_12) (htA _ k_20) (by decide +kernel) ⟨Nat.le_of_ble_eq_true rfl, Nat.le_of_ble_eq_true rfl⟩, htA _ k_22, htA _ k_23⟩ (pre_V hnw hPc hKc hDc (ci := 1) (q0 := 0) rfl rfl) rfl rfl hl.1 rfl (lv_room (Nat.le_of_ble_eq_true rfl)) d_O_answerNoNumber_110 ⟨Nat.le_of_ble_eq_true rfl, Nat.le_of_ble_eq_true rfl⟩) hS hFc hP hD [1] [0, 2, 3] (wr := [(aO, .inr (0, [.ref aT, .ref aF, .int cw, .int ts, .ref a1, .ref a2, .ref a3, .ref a4, .ref a5])), (a1, .inr (1, [.int (b2i n1), .int p1, .long f1])), (a2, .inr (1, [.int (b2i n2), .int p2, .long f2]))]) rfl rfl (by decide) (by decide) (fun H locs hP hD hS => ?_)
          have hP : va_P (dC, dI) classes [(aO, .inr (0, [.ref aT, .ref aF, .int cw, .int ts, .ref a1, .ref a2, .ref a3, .ref a4, .ref a5])), (a1, .inr (1, [.int (b2i n1), .int p1, .long f1])), (a2, .inr (1, [.int (b2i n2), .int p2, .long f2])), (a3, .inr (1, [.int (b2i n2), .int p2, .long f2]))] H := hP
          have hD : va_D A [(aO, .inr (0, [.ref aT, .ref aF, .int cw, .int ts, .ref a1, .ref a2, .ref a3, .ref a4, .ref a5])), (a1, .inr (1, [.int (b2i n1), .int p1, .long f1])), (a2, .inr (1, [.int (b2i n2), .int p2, .long f2])), (a3, .inr (1, [.int (b2i n2), .int p2, .long f2]))] := hD
          have hE : g_O_answerNoNumber n1 p1 f1 n2 p2 f2 = (n2, p2, f2) := by clear hP hD hl hS; unfold g_O_answerNoNumber; (try dsimp only); rw [if_pos c_7, if_pos c_23, if_pos c_33, if_pos c_55]
          have hP9 : va_P (dC, dI) classes [(aO, .inr (0, [.ref aT, .ref aF, .int cw, .int ts, .ref a1, .ref a2, .ref a3, .ref a4, .ref a5])), (a1, .inr (1, [.int (b2i n1), .int p1, .long f1])), (a2, .inr (1, [.int (b2i n2), .int p2, .long f2])), (a3, .inr (1, [.int (b2i ((g_O_answerNoNumber n1 p1 f1 n2 p2 f2).1)), .int ((g_O_answerNoNumber n1 p1 f1 n2 p2 f2).2.1), .long ((g_O_answerNoNumber n1 p1 f1 n2 p2 f2).2.2)]))] H := by rw [hE]; exact hP.sub [0, 1, 2, 3] rfl
          have hD9 : va_D A [(aO, .inr (0, [.ref aT, .ref aF, .int cw, .int ts, .ref a1, .ref a2, .ref a3, .ref a4, .ref a5])), (a1, .inr (1, [.int (b2i n1), .int p1, .long f1])), (a2, .inr (1, [.int (b2i n2), .int p2, .long f2])), (a3, .inr (1, [.int (b2i ((g_O_answerNoNumber n1 p1 f1 n2 p2 f2).1)), .int ((g_O_answerNoNumber n1 p1 f1 n2 p2 f2).2.1), .long ((g_O_answerNoNumber n1 p1 f1 n2 p2 f2).2.2)]))] := by rw [hE]; exact hD.sub [0, 1, 2, 3] (by decide) rfl
          exact W.vret hx hb hr (fun t ht hW => ⟨⟨(), rfl, trivial, by rw [ht]; exact hP9, hD9⟩, hS.F ht⟩) hS.2.2 d_O_answerNoNumber_113
        · skip
          have c_55 : ¬ uN f1 < uN f2 := fun h9 => c_55 ((cU_gt _ _).mpr h9)
          refine lv_iload_n hx hb d_O_answerNoNumber_58 rfl (lv_at hl 0 rfl) ?_
          refine lv_if_ne (tgt := 76) hx hb d_O_answerNoNumber_59 (by decide) (fun c_59 => ?_) (fun c_59 => ?_)
          · skip
            have c_59 : ¬ uN f2 = uN f1 := fun h9 => c_59 ((cU_eq _ _).mpr h9)
            refine lv_iconst (v := 0) hx hb d_O_answerNoNumber_76 (by decide) ?_
            refine lv_istore_n (lv' := [(1, .int 0), (2, .int (g_Lg_compareUnsigned f2 f1)), (0, .ref aO)]) hx hb d_O_answerNoNumber_77 rfl hl (by decide) rfl (fun ls hl => ?_)
            refine lv_iload_n hx hb d_O_answerNoNumber_78 rfl (lv_at hl 0 rfl) ?_
            refine lv_if_eq (tgt := 89) hx hb d_O_answerNoNumber_79 (by decide) (fun _ => ?_) (fun c_79 => absurd c_79 (by decide))
            refine lv_aload_n hx hb d_O_answerNoNumber_89 rfl (lv_at hl 2 rfl) ?_
            refine va_get (D := (dC, dI)) (ci := 0) (v := .ref a1) (C := R_O) (T := F_O) (N := 9) hx hb htA in_O hown hK hP 0 rfl rfl 4 (by decide) (htA _ k_104) (fun _ h9 => h9) rfl d_O_answerNoNumber_90 ?_
            refine lv_astore_n (lv' := [(2, .ref a1), (1, .int 0), (0, .ref aO)]) hx hb d_O_answerNoNumber_93 rfl hl (by decide) rfl (fun ls hl => ?_)
            refine lv_aload_n hx hb d_O_answerNoNumber_94 rfl (lv_at hl 2 rfl) ?_
            refine va_get (D := (dC, dI)) (ci := 0) (v := .ref a3) (C := R_O) (T := F_O) (N := 9) hx hb htA in_O hown hK hP 0 rfl rfl 6 (by decide) (htA _ k_128) (fun _ h9 => h9) rfl d_O_answerNoNumber_95 ?_
            refine lv_aload_n hx hb d_O_answerNoNumber_98 rfl (lv_at hl 0 rfl) ?_
            refine va_getN (D := (dC, dI)) (ci := 1) (v := .int (b2i n1)) (C := R_R) (T := F_R) (N := 3) hx hb htA in_R hown hK hP 2 rfl rfl 0 (by decide) (va_Nw.use rfl (hnw _ n_5)) (fun _ h9 => h9) rfl d_O_answerNoNumber_99 ?_
            refine lv_aload_n hx hb d_O_answerNoNumber_102 rfl (lv_at hl 0 rfl) ?_
            refine va_getN (D := (dC, dI)) (ci := 1) (v := .int p1) (C := R_R) (T := F_R) (N := 3) hx hb htA in_R hown hK hP 2 rfl rfl 1 (by decide) (va_Nw.use rfl (hnw _ n_10)) (fun _ h9 => h9) rfl d_O_answerNoNumber_103 ?_
            refine lv_aload_n hx hb d_O_answerNoNumber_106 rfl (lv_at hl 0 rfl) ?_
            refine va_getN (D := (dC, dI)) (ci := 1) (v := .long f1) (C := R_R) (T := F_R) (N := 3) hx hb htA in_R hown hK hP 2 rfl rfl 2 (by decide) (va_Nw.use rfl (hnw _ n_11)) (fun _ h9 => h9) rfl d_O_answerNoNumber_107 ?_
            have hPc := hP.sub (ws' := [(a3, .inr (1, [.int (b2i n3), .int p3, .long f3]))]) [1] rfl
            have hDc := hD.sub (ws' := [(a3, .inr (1, [.int (b2i n3), .int p3, .long f3]))]) [1] (by decide) rfl
            have hKc := hK.sub (tys' := []) [] rfl
            have hFc := va_free (wc := [(a3, .inr (1, [.int (b2i n3), .int p3, .long f3]))]) hD hS hA [1] rfl
            refine cc_v (va_runVN (As := [.int (b2i n1), .int p1, .long f1]) (rest := []) ⟨hx, hb, hml, hown, htA⟩ (c_R_put l dC dI a3 H.size n3 p3 f3 n1 p1 f1) ⟨va_cnB 3 htA (gi_code k_18) rfl rfl rfl (hnw _ n_12) (htA _ k_20) (by decide +kernel) ⟨Nat.le_of_ble_eq_true rfl, Nat.le_of_ble_eq_true rfl⟩, htA _ k_22, htA _ k_23⟩ (pre_V hnw hPc hKc hDc (ci := 1) (q0 := 0) rfl rfl) rfl rfl hl.1 rfl (lv_room (Nat.le_of_ble_eq_true rfl)) d_O_answerNoNumber_110 ⟨Nat.le_of_ble_eq_true rfl, Nat.le_of_ble_eq_true rfl⟩) hS hFc hP hD [1] [0, 2, 3] (wr := [(aO, .inr (0, [.ref aT, .ref aF, .int cw, .int ts, .ref a1, .ref a2, .ref a3, .ref a4, .ref a5])), (a1, .inr (1, [.int (b2i n1), .int p1, .long f1])), (a2, .inr (1, [.int (b2i n2), .int p2, .long f2]))]) rfl rfl (by decide) (by decide) (fun H locs hP hD hS => ?_)
            have hP : va_P (dC, dI) classes [(aO, .inr (0, [.ref aT, .ref aF, .int cw, .int ts, .ref a1, .ref a2, .ref a3, .ref a4, .ref a5])), (a1, .inr (1, [.int (b2i n1), .int p1, .long f1])), (a2, .inr (1, [.int (b2i n2), .int p2, .long f2])), (a3, .inr (1, [.int (b2i n1), .int p1, .long f1]))] H := hP
            have hD : va_D A [(aO, .inr (0, [.ref aT, .ref aF, .int cw, .int ts, .ref a1, .ref a2, .ref a3, .ref a4, .ref a5])), (a1, .inr (1, [.int (b2i n1), .int p1, .long f1])), (a2, .inr (1, [.int (b2i n2), .int p2, .long f2])), (a3, .inr (1, [.int (b2i n1), .int p1, .long f1]))] := hD
            have hE : g_O_answerNoNumber n1 p1 f1 n2 p2 f2 = (n1, p1, f1) := by clear hP hD hl hS; unfold g_O_answerNoNumber; (try dsimp only); rw [if_pos c_7, if_pos c_23, if_pos c_33, if_neg c_55, if_neg c_59]
            have hP9 : va_P (dC, dI) classes [(aO, .inr (0, [.ref aT, .ref aF, .int cw, .int ts, .ref a1, .ref a2, .ref a3, .ref a4, .ref a5])), (a1, .inr (1, [.int (b2i n1), .int p1, .long f1])), (a2, .inr (1, [.int (b2i n2), .int p2, .long f2])), (a3, .inr (1, [.int (b2i ((g_O_answerNoNumber n1 p1 f1 n2 p2 f2).1)), .int ((g_O_answerNoNumber n1 p1 f1 n2 p2 f2).2.1), .long ((g_O_answerNoNumber n1 p1 f1 n2 p2 f2).2.2)]))] H := by rw [hE]; exact hP.sub [0, 1, 2, 3] rfl
            have hD9 : va_D A [(aO, .inr (0, [.ref aT, .ref aF, .int cw, .int ts, .ref a1, .ref a2, .ref a3, .ref a4, .ref a5])), (a1, .inr (1, [.int (b2i n1), .int p1, .long f1])), (a2, .inr (1, [.int (b2i n2), .int p2, .long f2])), (a3, .inr (1, [.int (b2i ((g_O_answerNoNumber n1 p1 f1 n2 p2 f2).1)), .int ((g_O_answerNoNumber n1 p1 f1 n2 p2 f2).2.1), .long ((g_O_answerNoNumber n1 p1 f1 n2 p2 f2).2.2)]))] := by rw [hE]; exact hD.sub [0, 1, 2, 3] (by decide) rfl
            exact W.vret hx hb hr (fun t ht hW => ⟨⟨(), rfl, trivial, by rw [ht]; exact hP9, hD9⟩, hS.F ht⟩) hS.2.2 d_O_answerNoNumber_113
          · skip
            have c_59 : uN f2 = uN f1 := (cU_eq _ _).mp c_59
            refine lv_aload_n hx hb d_O_answerNoNumber_62 rfl (lv_at hl 2 rfl) ?_
            refine va_get (D := (dC, dI)) (ci := 0) (v := .ref a1) (C := R_O) (T := F_O) (N := 9) hx hb htA in_O hown hK hP 0 rfl rfl 4 (by decide) (htA _ k_104) (fun _ h9 => h9) rfl d_O_answerNoNumber_63 ?_
            refine va_getN (D := (dC, dI)) (ci := 1) (v := .int (b2i n1)) (C := R_R) (T := F_R) (N := 3) hx hb htA in_R hown hK hP 2 rfl rfl 0 (by decide) (va_Nw.use rfl (hnw _ n_5)) (fun _ h9 => h9) rfl d_O_answerNoNumber_66 ?_
            refine lv_if_eq (tgt := 76) hx hb d_O_answerNoNumber_69 (by decide) (fun c_69 => ?_) (fun c_69 => ?_)
            · skip
              have c_69 : ¬ n1 = true := b2i_z c_69
              refine lv_iconst (v := 0) hx hb d_O_answerNoNumber_76 (by decide) ?_
              refine lv_istore_n (lv' := [(1, .int 0), (2, .int (g_Lg_compareUnsigned f2 f1)), (0, .ref aO)]) hx hb d_O_answerNoNumber_77 rfl hl (by decide) rfl (fun ls hl => ?_)
              refine lv_iload_n hx hb d_O_answerNoNumber_78 rfl (lv_at hl 0 rfl) ?_
              refine lv_if_eq (tgt := 89) hx hb d_O_answerNoNumber_79 (by decide) (fun _ => ?_) (fun c_79 => absurd c_79 (by decide))
              refine lv_aload_n hx hb d_O_answerNoNumber_89 rfl (lv_at hl 2 rfl) ?_
              refine va_get (D := (dC, dI)) (ci := 0) (v := .ref a1) (C := R_O) (T := F_O) (N := 9) hx hb htA in_O hown hK hP 0 rfl rfl 4 (by decide) (htA _ k_104) (fun _ h9 => h9) rfl d_O_answerNoNumber_90 ?_
              refine lv_astore_n (lv' := [(2, .ref a1), (1, .int 0), (0, .ref aO)]) hx hb d_O_answerNoNumber_93 rfl hl (by decide) rfl (fun ls hl => ?_)
              refine lv_aload_n hx hb d_O_answerNoNumber_94 rfl (lv_at hl 2 rfl) ?_
              refine va_get (D := (dC, dI)) (ci := 0) (v := .ref a3) (C := R_O) (T := F_O) (N := 9) hx hb htA in_O hown hK hP 0 rfl rfl 6 (by decide) (htA _ k_128) (fun _ h9 => h9) rfl d_O_answerNoNumber_95 ?_
              refine lv_aload_n hx hb d_O_answerNoNumber_98 rfl (lv_at hl 0 rfl) ?_
              refine va_getN (D := (dC, dI)) (ci := 1) (v := .int (b2i n1)) (C := R_R) (T := F_R) (N := 3) hx hb htA in_R hown hK hP 2 rfl rfl 0 (by decide) (va_Nw.use rfl (hnw _ n_5)) (fun _ h9 => h9) rfl d_O_answerNoNumber_99 ?_
              refine lv_aload_n hx hb d_O_answerNoNumber_102 rfl (lv_at hl 0 rfl) ?_
              refine va_getN (D := (dC, dI)) (ci := 1) (v := .int p1) (C := R_R) (T := F_R) (N := 3) hx hb htA in_R hown hK hP 2 rfl rfl 1 (by decide) (va_Nw.use rfl (hnw _ n_10)) (fun _ h9 => h9) rfl d_O_answerNoNumber_103 ?_
              refine lv_aload_n hx hb d_O_answerNoNumber_106 rfl (lv_at hl 0 rfl) ?_
              refine va_getN (D := (dC, dI)) (ci := 1) (v := .long f1) (C := R_R) (T := F_R) (N := 3) hx hb htA in_R hown hK hP 2 rfl rfl 2 (by decide) (va_Nw.use rfl (hnw _ n_11)) (fun _ h9 => h9) rfl d_O_answerNoNumber_107 ?_
              have hPc := hP.sub (ws' := [(a3, .inr (1, [.int (b2i n3), .int p3, .long f3]))]) [1] rfl
              have hDc := hD.sub (ws' := [(a3, .inr (1, [.int (b2i n3), .int p3, .long f3]))]) [1] (by decide) rfl
              have hKc := hK.sub (tys' := []) [] rfl
              have hFc := va_free (wc := [(a3, .inr (1, [.int (b2i n3), .int p3, .long f3]))]) hD hS hA [1] rfl
              refine cc_v (va_runVN (As := [.int (b2i n1), .int p1, .long f1]) (rest := []) ⟨hx, hb, hml, hown, htA⟩ (c_R_put l dC dI a3 H.size n3 p3 f3 n1 p1 f1) ⟨va_cnB 3 htA (gi_code k_18) rfl rfl rfl (hnw _ n_12) (htA _ k_20) (by decide +kernel) ⟨Nat.le_of_ble_eq_true rfl, Nat.le_of_ble_eq_true rfl⟩, htA _ k_22, htA _ k_23⟩ (pre_V hnw hPc hKc hDc (ci := 1) (q0 := 0) rfl rfl) rfl rfl hl.1 rfl (lv_room (Nat.le_of_ble_eq_true rfl)) d_O_answerNoNumber_110 ⟨Nat.le_of_ble_eq_true rfl, Nat.le_of_ble_eq_true rfl⟩) hS hFc hP hD [1] [0, 2, 3] (wr := [(aO, .inr (0, [.ref aT, .ref aF, .int cw, .int ts, .ref a1, .ref a2, .ref a3, .ref a4, .ref a5])), (a1, .inr (1, [.int (b2i n1), .int p1, .long f1])), (a2, .inr (1, [.int (b2i n2), .int p2, .long f2]))]) rfl rfl (by decide) (by decide) (fun H locs hP hD hS => ?_)
              have hP : va_P (dC, dI) classes [(aO, .inr (0, [.ref aT, .ref aF, .int cw, .int ts, .ref a1, .ref a2, .ref a3, .ref a4, .ref a5])), (a1, .inr (1, [.int (b2i n1), .int p1, .long f1])), (a2, .inr (1, [.int (b2i n2), .int p2, .long f2])), (a3, .inr (1, [.int (b2i n1), .int p1, .long f1]))] H := hP
              have hD : va_D A [(aO, .inr (0, [.ref aT, .ref aF, .int cw, .int ts, .ref a1, .ref a2, .ref a3, .ref a4, .ref a5])), (a1, .inr (1, [.int (b2i n1), .int p1, .long f1])), (a2, .inr (1, [.int (b2i n2), .int p2, .long f2])), (a3, .inr (1, [.int (b2i n1), .int p1, .long f1]))] := hD
              have hE : g_O_answerNoNumber n1 p1 f1 n2 p2 f2 = (n1, p1, f1) := by clear hP hD hl hS; unfold g_O_answerNoNumber; (try dsimp only); rw [if_pos c_7, if_pos c_23, if_pos c_33, if_neg c_55, if_pos c_59, if_neg c_69]
              have hP9 : va_P (dC, dI) classes [(aO, .inr (0, [.ref aT, .ref aF, .int cw, .int ts, .ref a1, .ref a2, .ref a3, .ref a4, .ref a5])), (a1, .inr (1, [.int (b2i n1), .int p1, .long f1])), (a2, .inr (1, [.int (b2i n2), .int p2, .long f2])), (a3, .inr (1, [.int (b2i ((g_O_answerNoNumber n1 p1 f1 n2 p2 f2).1)), .int ((g_O_answerNoNumber n1 p1 f1 n2 p2 f2).2.1), .long ((g_O_answerNoNumber n1 p1 f1 n2 p2 f2).2.2)]))] H := by rw [hE]; exact hP.sub [0, 1, 2, 3] rfl
              have hD9 : va_D A [(aO, .inr (0, [.ref aT, .ref aF, .int cw, .int ts, .ref a1, .ref a2, .ref a3, .ref a4, .ref a5])), (a1, .inr (1, [.int (b2i n1), .int p1, .long f1])), (a2, .inr (1, [.int (b2i n2), .int p2, .long f2])), (a3, .inr (1, [.int (b2i ((g_O_answerNoNumber n1 p1 f1 n2 p2 f2).1)), .int ((g_O_answerNoNumber n1 p1 f1 n2 p2 f2).2.1), .long ((g_O_answerNoNumber n1 p1 f1 n2 p2 f2).2.2)]))] := by rw [hE]; exact hD.sub [0, 1, 2, 3] (by decide) rfl
              exact W.vret hx hb hr (fun t ht hW => ⟨⟨(), rfl, trivial, by rw [ht]; exact hP9, hD9⟩, hS.F ht⟩) hS.2.2 d_O_answerNoNumber_113
            · skip
              have c_69 : n1 = true := b2i_nz c_69
              refine lv_iconst (v := 1) hx hb d_O_answerNoNumber_72 (by decide) ?_
              refine lv_goto (tgt := 77) hx hb d_O_answerNoNumber_73 (by decide) ?_
              refine lv_istore_n (lv' := [(1, .int 1), (2, .int (g_Lg_compareUnsigned f2 f1)), (0, .ref aO)]) hx hb d_O_answerNoNumber_77 rfl hl (by decide) rfl (fun ls hl => ?_)
              refine lv_iload_n hx hb d_O_answerNoNumber_78 rfl (lv_at hl 0 rfl) ?_
              refine lv_if_eq (tgt := 89) hx hb d_O_answerNoNumber_79 (by decide) (fun c_79 => absurd c_79 (by decide)) (fun _ => ?_)
              refine lv_aload_n hx hb d_O_answerNoNumber_82 rfl (lv_at hl 2 rfl) ?_
              refine va_get (D := (dC, dI)) (ci := 0) (v := .ref a2) (C := R_O) (T := F_O) (N := 9) hx hb htA in_O hown hK hP 0 rfl rfl 5 (by decide) (htA _ k_105) (fun _ h9 => h9) rfl d_O_answerNoNumber_83 ?_
              refine lv_goto (tgt := 93) hx hb d_O_answerNoNumber_86 (by decide) ?_
              refine lv_astore_n (lv' := [(2, .ref a2), (1, .int 1), (0, .ref aO)]) hx hb d_O_answerNoNumber_93 rfl hl (by decide) rfl (fun ls hl => ?_)
              refine lv_aload_n hx hb d_O_answerNoNumber_94 rfl (lv_at hl 2 rfl) ?_
              refine va_get (D := (dC, dI)) (ci := 0) (v := .ref a3) (C := R_O) (T := F_O) (N := 9) hx hb htA in_O hown hK hP 0 rfl rfl 6 (by decide) (htA _ k_128) (fun _ h9 => h9) rfl d_O_answerNoNumber_95 ?_
              refine lv_aload_n hx hb d_O_answerNoNumber_98 rfl (lv_at hl 0 rfl) ?_
              refine va_getN (D := (dC, dI)) (ci := 1) (v := .int (b2i n2)) (C := R_R) (T := F_R) (N := 3) hx hb htA in_R hown hK hP 3 rfl rfl 0 (by decide) (va_Nw.use rfl (hnw _ n_5)) (fun _ h9 => h9) rfl d_O_answerNoNumber_99 ?_
              refine lv_aload_n hx hb d_O_answerNoNumber_102 rfl (lv_at hl 0 rfl) ?_
              refine va_getN (D := (dC, dI)) (ci := 1) (v := .int p2) (C := R_R) (T := F_R) (N := 3) hx hb htA in_R hown hK hP 3 rfl rfl 1 (by decide) (va_Nw.use rfl (hnw _ n_10)) (fun _ h9 => h9) rfl d_O_answerNoNumber_103 ?_
              refine lv_aload_n hx hb d_O_answerNoNumber_106 rfl (lv_at hl 0 rfl) ?_
              refine va_getN (D := (dC, dI)) (ci := 1) (v := .long f2) (C := R_R) (T := F_R) (N := 3) hx hb htA in_R hown hK hP 3 rfl rfl 2 (by decide) (va_Nw.use rfl (hnw _ n_11)) (fun _ h9 => h9) rfl d_O_answerNoNumber_107 ?_
              have hPc := hP.sub (ws' := [(a3, .inr (1, [.int (b2i n3), .int p3, .long f3]))]) [1] rfl
              have hDc := hD.sub (ws' := [(a3, .inr (1, [.int (b2i n3), .int p3, .long f3]))]) [1] (by decide) rfl
              have hKc := hK.sub (tys' := []) [] rfl
              have hFc := va_free (wc := [(a3, .inr (1, [.int (b2i n3), .int p3, .long f3]))]) hD hS hA [1] rfl
              refine cc_v (va_runVN (As := [.int (b2i n2), .int p2, .long f2]) (rest := []) ⟨hx, hb, hml, hown, htA⟩ (c_R_put l dC dI a3 H.size n3 p3 f3 n2 p2 f2) ⟨va_cnB 3 htA (gi_code k_18) rfl rfl rfl (hnw _ n_12) (htA _ k_20) (by decide +kernel) ⟨Nat.le_of_ble_eq_true rfl, Nat.le_of_ble_eq_true rfl⟩, htA _ k_22, htA _ k_23⟩ (pre_V hnw hPc hKc hDc (ci := 1) (q0 := 0) rfl rfl) rfl rfl hl.1 rfl (lv_room (Nat.le_of_ble_eq_true rfl)) d_O_answerNoNumber_110 ⟨Nat.le_of_ble_eq_true rfl, Nat.le_of_ble_eq_true rfl⟩) hS hFc hP hD [1] [0, 2, 3] (wr := [(aO, .inr (0, [.ref aT, .ref aF, .int cw, .int ts, .ref a1, .ref a2, .ref a3, .ref a4, .ref a5])), (a1, .inr (1, [.int (b2i n1), .int p1, .long f1])), (a2, .inr (1, [.int (b2i n2), .int p2, .long f2]))]) rfl rfl (by decide) (by decide) (fun H locs hP hD hS => ?_)
              have hP : va_P (dC, dI) classes [(aO, .inr (0, [.ref aT, .ref aF, .int cw, .int ts, .ref a1, .ref a2, .ref a3, .ref a4, .ref a5])), (a1, .inr (1, [.int (b2i n1), .int p1, .long f1])), (a2, .inr (1, [.int (b2i n2), .int p2, .long f2])), (a3, .inr (1, [.int (b2i n2), .int p2, .long f2]))] H := hP
              have hD : va_D A [(aO, .inr (0, [.ref aT, .ref aF, .int cw, .int ts, .ref a1, .ref a2, .ref a3, .ref a4, .ref a5])), (a1, .inr (1, [.int (b2i n1), .int p1, .long f1])), (a2, .inr (1, [.int (b2i n2), .int p2, .long f2])), (a3, .inr (1, [.int (b2i n2), .int p2, .long f2]))] := hD
              have hE : g_O_answerNoNumber n1 p1 f1 n2 p2 f2 = (n2, p2, f2) := by clear hP hD hl hS; unfold g_O_answerNoNumber; (try dsimp only); rw [if_pos c_7, if_pos c_23, if_pos c_33, if_neg c_55, if_pos c_59, if_pos c_69]
              have hP9 : va_P (dC, dI) classes [(aO, .inr (0, [.ref aT, .ref aF, .int cw, .int ts, .ref a1, .ref a2, .ref a3, .ref a4, .ref a5])), (a1, .inr (1, [.int (b2i n1), .int p1, .long f1])), (a2, .inr (1, [.int (b2i n2), .int p2, .long f2])), (a3, .inr (1, [.int (b2i ((g_O_answerNoNumber n1 p1 f1 n2 p2 f2).1)), .int ((g_O_answerNoNumber n1 p1 f1 n2 p2 f2).2.1), .long ((g_O_answerNoNumber n1 p1 f1 n2 p2 f2).2.2)]))] H := by rw [hE]; exact hP.sub [0, 1, 2, 3] rfl
              have hD9 : va_D A [(aO, .inr (0, [.ref aT, .ref aF, .int cw, .int ts, .ref a1, .ref a2, .ref a3, .ref a4, .ref a5])), (a1, .inr (1, [.int (b2i n1), .int p1, .long f1])), (a2, .inr (1, [.int (b2i n2), .int p2, .long f2])), (a3, .inr (1, [.int (b2i ((g_O_answerNoNumber n1 p1 f1 n2 p2 f2).1)), .int ((g_O_answerNoNumber n1 p1 f1 n2 p2 f2).2.1), .long ((g_O_answerNoNumber n1 p1 f1 n2 p2 f2).2.2)]))] := by rw [hE]; exact hD.sub [0, 1, 2, 3] (by decide) rfl
              exact W.vret hx hb hr (fun t ht hW => ⟨⟨(), rfl, trivial, by rw [ht]; exact hP9, hD9⟩, hS.F ht⟩) hS.2.2 d_O_answerNoNumber_113
  · skip
    have c_7 : ¬ (g_R_isNoNumber p1 f1) = true := b2i_z c_7
    refine lv_iconst (v := 1) hx hb d_O_answerNoNumber_10 (by decide) ?_
    refine lv_goto (tgt := 15) hx hb d_O_answerNoNumber_11 (by decide) ?_
    refine lv_istore_n (lv' := [(1, .int 1), (0, .ref aO)]) hx hb d_O_answerNoNumber_15 rfl hl (by decide) rfl (fun ls hl => ?_)
    refine lv_aload_n hx hb d_O_answerNoNumber_16 rfl (lv_at hl 1 rfl) ?_
    refine va_get (D := (dC, dI)) (ci := 0) (v := .ref a1) (C := R_O) (T := F_O) (N := 9) hx hb htA in_O hown hK hP 0 rfl rfl 4 (by decide) (htA _ k_104) (fun _ h9 => h9) rfl d_O_answerNoNumber_17 ?_
    have hPc := hP.sub (ws' := [(a1, .inr (1, [.int (b2i n1), .int p1, .long f1]))]) [3] rfl
    have hDc := hD.sub (ws' := [(a1, .inr (1, [.int (b2i n1), .int p1, .long f1]))]) [3] (by decide) rfl
    have hKc := hK.sub (tys' := []) [] rfl
    have hFc := va_free (wc := [(a1, .inr (1, [.int (b2i n1), .int p1, .long f1]))]) hD hS hA [3] rfl
    refine cc_i (va_runVN (As := []) (rest := []) ⟨hx, hb, hml, hown, htA⟩ (c_R_isNoNumber l dC dI a1 H.size n1 p1 f1) ⟨va_cnB 0 htA (gi_code k_29) rfl rfl rfl (hnw _ n_9) (htA _ k_20) (by decide +kernel) ⟨Nat.le_of_ble_eq_true rfl, Nat.le_of_ble_eq_true rfl⟩, htA _ k_126, htA _ k_127⟩ (pre_V hnw hPc hKc hDc (ci := 1) (q0 := 0) rfl rfl) rfl rfl hl.1 rfl (lv_room (Nat.le_of_ble_eq_true rfl)) d_O_answerNoNumber_20 ⟨Nat.le_of_ble_eq_true rfl, Nat.le_of_ble_eq_true rfl⟩) hS hFc hP hD [3] [0, 1, 2] (wr := [(aO, .inr (0, [.ref aT, .ref aF, .int cw, .int ts, .ref a1, .ref a2, .ref a3, .ref a4, .ref a5])), (a2, .inr (1, [.int (b2i n2), .int p2, .long f2])), (a3, .inr (1, [.int (b2i n3), .int p3, .long f3]))]) rfl rfl (by decide) (by decide) (fun H locs hP hD hS => ?_)
    have hP : va_P (dC, dI) classes [(aO, .inr (0, [.ref aT, .ref aF, .int cw, .int ts, .ref a1, .ref a2, .ref a3, .ref a4, .ref a5])), (a2, .inr (1, [.int (b2i n2), .int p2, .long f2])), (a3, .inr (1, [.int (b2i n3), .int p3, .long f3])), (a1, .inr (1, [.int (b2i n1), .int p1, .long f1]))] H := hP
    have hD : va_D A [(aO, .inr (0, [.ref aT, .ref aF, .int cw, .int ts, .ref a1, .ref a2, .ref a3, .ref a4, .ref a5])), (a2, .inr (1, [.int (b2i n2), .int p2, .long f2])), (a3, .inr (1, [.int (b2i n3), .int p3, .long f3])), (a1, .inr (1, [.int (b2i n1), .int p1, .long f1]))] := hD
    refine lv_if_eq (tgt := 78) hx hb d_O_answerNoNumber_23 (by decide) (fun c_23 => ?_) (fun c_23 => ?_)
    · skip
      have c_23 : ¬ (g_R_isNoNumber p1 f1) = true := b2i_z c_23
      refine lv_iload_n hx hb d_O_answerNoNumber_78 rfl (lv_at hl 0 rfl) ?_
      refine lv_if_eq (tgt := 89) hx hb d_O_answerNoNumber_79 (by decide) (fun c_79 => absurd c_79 (by decide)) (fun _ => ?_)
      refine lv_aload_n hx hb d_O_answerNoNumber_82 rfl (lv_at hl 1 rfl) ?_
      refine va_get (D := (dC, dI)) (ci := 0) (v := .ref a2) (C := R_O) (T := F_O) (N := 9) hx hb htA in_O hown hK hP 0 rfl rfl 5 (by decide) (htA _ k_105) (fun _ h9 => h9) rfl d_O_answerNoNumber_83 ?_
      refine lv_goto (tgt := 93) hx hb d_O_answerNoNumber_86 (by decide) ?_
      refine lv_astore_n (lv' := [(2, .ref a2), (1, .int 1), (0, .ref aO)]) hx hb d_O_answerNoNumber_93 rfl hl (by decide) rfl (fun ls hl => ?_)
      refine lv_aload_n hx hb d_O_answerNoNumber_94 rfl (lv_at hl 2 rfl) ?_
      refine va_get (D := (dC, dI)) (ci := 0) (v := .ref a3) (C := R_O) (T := F_O) (N := 9) hx hb htA in_O hown hK hP 0 rfl rfl 6 (by decide) (htA _ k_128) (fun _ h9 => h9) rfl d_O_answerNoNumber_95 ?_
      refine lv_aload_n hx hb d_O_answerNoNumber_98 rfl (lv_at hl 0 rfl) ?_
      refine va_getN (D := (dC, dI)) (ci := 1) (v := .int (b2i n2)) (C := R_R) (T := F_R) (N := 3) hx hb htA in_R hown hK hP 1 rfl rfl 0 (by decide) (va_Nw.use rfl (hnw _ n_5)) (fun _ h9 => h9) rfl d_O_answerNoNumber_99 ?_
      refine lv_aload_n hx hb d_O_answerNoNumber_102 rfl (lv_at hl 0 rfl) ?_
      refine va_getN (D := (dC, dI)) (ci := 1) (v := .int p2) (C := R_R) (T := F_R) (N := 3) hx hb htA in_R hown hK hP 1 rfl rfl 1 (by decide) (va_Nw.use rfl (hnw _ n_10)) (fun _ h9 => h9) rfl d_O_answerNoNumber_103 ?_
      refine lv_aload_n hx hb d_O_answerNoNumber_106 rfl (lv_at hl 0 rfl) ?_
      refine va_getN (D := (dC, dI)) (ci := 1) (v := .long f2) (C := R_R) (T := F_R) (N := 3) hx hb htA in_R hown hK hP 1 rfl rfl 2 (by decide) (va_Nw.use rfl (hnw _ n_11)) (fun _ h9 => h9) rfl d_O_answerNoNumber_107 ?_
      have hPc := hP.sub (ws' := [(a3, .inr (1, [.int (b2i n3), .int p3, .long f3]))]) [2] rfl
      have hDc := hD.sub (ws' := [(a3, .inr (1, [.int (b2i n3), .int p3, .long f3]))]) [2] (by decide) rfl
      have hKc := hK.sub (tys' := []) [] rfl
      have hFc := va_free (wc := [(a3, .inr (1, [.int (b2i n3), .int p3, .long f3]))]) hD hS hA [2] rfl
      refine cc_v (va_runVN (As := [.int (b2i n2), .int p2, .long f2]) (rest := []) ⟨hx, hb, hml, hown, htA⟩ (c_R_put l dC dI a3 H.size n3 p3 f3 n2 p2 f2) ⟨va_cnB 3 htA (gi_code k_18) rfl rfl rfl (hnw _ n_12) (htA _ k_20) (by decide +kernel) ⟨Nat.le_of_ble_eq_true rfl, Nat.le_of_ble_eq_true rfl⟩, htA _ k_22, htA _ k_23⟩ (pre_V hnw hPc hKc hDc (ci := 1) (q0 := 0) rfl rfl) rfl rfl hl.1 rfl (lv_room (Nat.le_of_ble_eq_true rfl)) d_O_answerNoNumber_110 ⟨Nat.le_of_ble_eq_true rfl, Nat.le_of_ble_eq_true rfl⟩) hS hFc hP hD [2] [0, 1, 3] (wr := [(aO, .inr (0, [.ref aT, .ref aF, .int cw, .int ts, .ref a1, .ref a2, .ref a3, .ref a4, .ref a5])), (a2, .inr (1, [.int (b2i n2), .int p2, .long f2])), (a1, .inr (1, [.int (b2i n1), .int p1, .long f1]))]) rfl rfl (by decide) (by decide) (fun H locs hP hD hS => ?_)
      have hP : va_P (dC, dI) classes [(aO, .inr (0, [.ref aT, .ref aF, .int cw, .int ts, .ref a1, .ref a2, .ref a3, .ref a4, .ref a5])), (a2, .inr (1, [.int (b2i n2), .int p2, .long f2])), (a1, .inr (1, [.int (b2i n1), .int p1, .long f1])), (a3, .inr (1, [.int (b2i n2), .int p2, .long f2]))] H := hP
      have hD : va_D A [(aO, .inr (0, [.ref aT, .ref aF, .int cw, .int ts, .ref a1, .ref a2, .ref a3, .ref a4, .ref a5])), (a2, .inr (1, [.int (b2i n2), .int p2, .long f2])), (a1, .inr (1, [.int (b2i n1), .int p1, .long f1])), (a3, .inr (1, [.int (b2i n2), .int p2, .long f2]))] := hD
      have hE : g_O_answerNoNumber n1 p1 f1 n2 p2 f2 = (n2, p2, f2) := by clear hP hD hl hS; unfold g_O_answerNoNumber; (try dsimp only); rw [if_neg c_7, if_neg c_23]
      have hP9 : va_P (dC, dI) classes [(aO, .inr (0, [.ref aT, .ref aF, .int cw, .int ts, .ref a1, .ref a2, .ref a3, .ref a4, .ref a5])), (a1, .inr (1, [.int (b2i n1), .int p1, .long f1])), (a2, .inr (1, [.int (b2i n2), .int p2, .long f2])), (a3, .inr (1, [.int (b2i ((g_O_answerNoNumber n1 p1 f1 n2 p2 f2).1)), .int ((g_O_answerNoNumber n1 p1 f1 n2 p2 f2).2.1), .long ((g_O_answerNoNumber n1 p1 f1 n2 p2 f2).2.2)]))] H := by rw [hE]; exact hP.sub [0, 2, 1, 3] rfl
      have hD9 : va_D A [(aO, .inr (0, [.ref aT, .ref aF, .int cw, .int ts, .ref a1, .ref a2, .ref a3, .ref a4, .ref a5])), (a1, .inr (1, [.int (b2i n1), .int p1, .long f1])), (a2, .inr (1, [.int (b2i n2), .int p2, .long f2])), (a3, .inr (1, [.int (b2i ((g_O_answerNoNumber n1 p1 f1 n2 p2 f2).1)), .int ((g_O_answerNoNumber n1 p1 f1 n2 p2 f2).2.1), .long ((g_O_answerNoNumber n1 p1 f1 n2 p2 f2).2.2)]))] := by rw [hE]; exact hD.sub [0, 2, 1, 3] (by decide) rfl
      exact W.vret hx hb hr (fun t ht hW => ⟨⟨(), rfl, trivial, by rw [ht]; exact hP9, hD9⟩, hS.F ht⟩) hS.2.2 d_O_answerNoNumber_113
    · skip
      have c_23 : (g_R_isNoNumber p1 f1) = true := b2i_nz c_23
      refine lv_aload_n hx hb d_O_answerNoNumber_26 rfl (lv_at hl 1 rfl) ?_
      refine va_get (D := (dC, dI)) (ci := 0) (v := .ref a2) (C := R_O) (T := F_O) (N := 9) hx hb htA in_O hown hK hP 0 rfl rfl 5 (by decide) (htA _ k_105) (fun _ h9 => h9) rfl d_O_answerNoNumber_27 ?_
      have hPc := hP.sub (ws' := [(a2, .inr (1, [.int (b2i n2), .int p2, .long f2]))]) [1] rfl
      have hDc := hD.sub (ws' := [(a2, .inr (1, [.int (b2i n2), .int p2, .long f2]))]) [1] (by decide) rfl
      have hKc := hK.sub (tys' := []) [] rfl
      have hFc := va_free (wc := [(a2, .inr (1, [.int (b2i n2), .int p2, .long f2]))]) hD hS hA [1] rfl
      refine cc_i (va_runVN (As := []) (rest := []) ⟨hx, hb, hml, hown, htA⟩ (c_R_isNoNumber l dC dI a2 H.size n2 p2 f2) ⟨va_cnB 0 htA (gi_code k_29) rfl rfl rfl (hnw _ n_9) (htA _ k_20) (by decide +kernel) ⟨Nat.le_of_ble_eq_true rfl, Nat.le_of_ble_eq_true rfl⟩, htA _ k_126, htA _ k_127⟩ (pre_V hnw hPc hKc hDc (ci := 1) (q0 := 0) rfl rfl) rfl rfl hl.1 rfl (lv_room (Nat.le_of_ble_eq_true rfl)) d_O_answerNoNumber_30 ⟨Nat.le_of_ble_eq_true rfl, Nat.le_of_ble_eq_true rfl⟩) hS hFc hP hD [1] [0, 2, 3] (wr := [(aO, .inr (0, [.ref aT, .ref aF, .int cw, .int ts, .ref a1, .ref a2, .ref a3, .ref a4, .ref a5])), (a3, .inr (1, [.int (b2i n3), .int p3, .long f3])), (a1, .inr (1, [.int (b2i n1), .int p1, .long f1]))]) rfl rfl (by decide) (by decide) (fun H locs hP hD hS => ?_)
      have hP : va_P (dC, dI) classes [(aO, .inr (0, [.ref aT, .ref aF, .int cw, .int ts, .ref a1, .ref a2, .ref a3, .ref a4, .ref a5])), (a3, .inr (1, [.int (b2i n3), .int p3, .long f3])), (a1, .inr (1, [.int (b2i n1), .int p1, .long f1])), (a2, .inr (1, [.int (b2i n2), .int p2, .long f2]))] H := hP
      have hD : va_D A [(aO, .inr (0, [.ref aT, .ref aF, .int cw, .int ts, .ref a1, .ref a2, .ref a3, .ref a4, .ref a5])), (a3, .inr (1, [.int (b2i n3), .int p3, .long f3])), (a1, .inr (1, [.int (b2i n1), .int p1, .long f1])), (a2, .inr (1, [.int (b2i n2), .int p2, .long f2]))] := hD
      refine lv_if_eq (tgt := 78) hx hb d_O_answerNoNumber_33 (by decide) (fun c_33 => ?_) (fun c_33 => ?_)
      · skip
        have c_33 : ¬ (g_R_isNoNumber p2 f2) = true := b2i_z c_33
        refine lv_iload_n hx hb d_O_answerNoNumber_78 rfl (lv_at hl 0 rfl) ?_
        refine lv_if_eq (tgt := 89) hx hb d_O_answerNoNumber_79 (by decide) (fun c_79 => absurd c_79 (by decide)) (fun _ => ?_)
        refine lv_aload_n hx hb d_O_answerNoNumber_82 rfl (lv_at hl 1 rfl) ?_
        refine va_get (D := (dC, dI)) (ci := 0) (v := .ref a2) (C := R_O) (T := F_O) (N := 9) hx hb htA in_O hown hK hP 0 rfl rfl 5 (by decide) (htA _ k_105) (fun _ h9 => h9) rfl d_O_answerNoNumber_83 ?_
        refine lv_goto (tgt := 93) hx hb d_O_answerNoNumber_86 (by decide) ?_
        refine lv_astore_n (lv' := [(2, .ref a2), (1, .int 1), (0, .ref aO)]) hx hb d_O_answerNoNumber_93 rfl hl (by decide) rfl (fun ls hl => ?_)
        refine lv_aload_n hx hb d_O_answerNoNumber_94 rfl (lv_at hl 2 rfl) ?_
        refine va_get (D := (dC, dI)) (ci := 0) (v := .ref a3) (C := R_O) (T := F_O) (N := 9) hx hb htA in_O hown hK hP 0 rfl rfl 6 (by decide) (htA _ k_128) (fun _ h9 => h9) rfl d_O_answerNoNumber_95 ?_
        refine lv_aload_n hx hb d_O_answerNoNumber_98 rfl (lv_at hl 0 rfl) ?_
        refine va_getN (D := (dC, dI)) (ci := 1) (v := .int (b2i n2)) (C := R_R) (T := F_R) (N := 3) hx hb htA in_R hown hK hP 3 rfl rfl 0 (by decide) (va_Nw.use rfl (hnw _ n_5)) (fun _ h9 => h9) rfl d_O_answerNoNumber_99 ?_
        refine lv_aload_n hx hb d_O_answerNoNumber_102 rfl (lv_at hl 0 rfl) ?_
        refine va_getN (D := (dC, dI)) (ci := 1) (v := .int p2) (C := R_R) (T := F_R) (N := 3) hx hb htA in_R hown hK hP 3 rfl rfl 1 (by decide) (va_Nw.use rfl (hnw _ n_10)) (fun _ h9 => h9) rfl d_O_answerNoNumber_103 ?_
        refine lv_aload_n hx hb d_O_answerNoNumber_106 rfl (lv_at hl 0 rfl) ?_
        refine va_getN (D := (dC, dI)) (ci := 1) (v := .long f2) (C := R_R) (T := F_R) (N := 3) hx hb htA in_R hown hK hP 3 rfl rfl 2 (by decide) (va_Nw.use rfl (hnw _ n_11)) (fun _ h9 => h9) rfl d_O_answerNoNumber_107 ?_
        have hPc := hP.sub (ws' := [(a3, .inr (1, [.int (b2i n3), .int p3, .long f3]))]) [1] rfl
        have hDc := hD.sub (ws' := [(a3, .inr (1, [.int (b2i n3), .int p3, .long f3]))]) [1] (by decide) rfl
        have hKc := hK.sub (tys' := []) [] rfl
        have hFc := va_free (wc := [(a3, .inr (1, [.int (b2i n3), .int p3, .long f3]))]) hD hS hA [1] rfl
        refine cc_v (va_runVN (As := [.int (b2i n2), .int p2, .long f2]) (rest := []) ⟨hx, hb, hml, hown, htA⟩ (c_R_put l dC dI a3 H.size n3 p3 f3 n2 p2 f2) ⟨va_cnB 3 htA (gi_code k_18) rfl rfl rfl (hnw _ n_12) (htA _ k_20) (by decide +kernel) ⟨Nat.le_of_ble_eq_true rfl, Nat.le_of_ble_eq_true rfl⟩, htA _ k_22, htA _ k_23⟩ (pre_V hnw hPc hKc hDc (ci := 1) (q0 := 0) rfl rfl) rfl rfl hl.1 rfl (lv_room (Nat.le_of_ble_eq_true rfl)) d_O_answerNoNumber_110 ⟨Nat.le_of_ble_eq_true rfl, Nat.le_of_ble_eq_true rfl⟩) hS hFc hP hD [1] [0, 2, 3] (wr := [(aO, .inr (0, [.ref aT, .ref aF, .int cw, .int ts, .ref a1, .ref a2, .ref a3, .ref a4, .ref a5])), (a1, .inr (1, [.int (b2i n1), .int p1, .long f1])), (a2, .inr (1, [.int (b2i n2), .int p2, .long f2]))]) rfl rfl (by decide) (by decide) (fun H locs hP hD hS => ?_)
        have hP : va_P (dC, dI) classes [(aO, .inr (0, [.ref aT, .ref aF, .int cw, .int ts, .ref a1, .ref a2, .ref a3, .ref a4, .ref a5])), (a1, .inr (1, [.int (b2i n1), .int p1, .long f1])), (a2, .inr (1, [.int (b2i n2), .int p2, .long f2])), (a3, .inr (1, [.int (b2i n2), .int p2, .long f2]))] H := hP
        have hD : va_D A [(aO, .inr (0, [.ref aT, .ref aF, .int cw, .int ts, .ref a1, .ref a2, .ref a3, .ref a4, .ref a5])), (a1, .inr (1, [.int (b2i n1), .int p1, .long f1])), (a2, .inr (1, [.int (b2i n2), .int p2, .long f2])), (a3, .inr (1, [.int (b2i n2), .int p2, .long f2]))] := hD
        have hE : g_O_answerNoNumber n1 p1 f1 n2 p2 f2 = (n2, p2, f2) := by clear hP hD hl hS; unfold g_O_answerNoNumber; (try dsimp only); rw [if_neg c_7, if_pos c_23, if_neg c_33]
        have hP9 : va_P (dC, dI) classes [(aO, .inr (0, [.ref aT, .ref aF, .int cw, .int ts, .ref a1, .ref a2, .ref a3, .ref a4, .ref a5])), (a1, .inr (1, [.int (b2i n1), .int p1, .long f1])), (a2, .inr (1, [.int (b2i n2), .int p2, .long f2])), (a3, .inr (1, [.int (b2i ((g_O_answerNoNumber n1 p1 f1 n2 p2 f2).1)), .int ((g_O_answerNoNumber n1 p1 f1 n2 p2 f2).2.1), .long ((g_O_answerNoNumber n1 p1 f1 n2 p2 f2).2.2)]))] H := by rw [hE]; exact hP.sub [0, 1, 2, 3] rfl
        have hD9 : va_D A [(aO, .inr (0, [.ref aT, .ref aF, .int cw, .int ts, .ref a1, .ref a2, .ref a3, .ref a4, .ref a5])), (a1, .inr (1, [.int (b2i n1), .int p1, .long f1])), (a2, .inr (1, [.int (b2i n2), .int p2, .long f2])), (a3, .inr (1, [.int (b2i ((g_O_answerNoNumber n1 p1 f1 n2 p2 f2).1)), .int ((g_O_answerNoNumber n1 p1 f1 n2 p2 f2).2.1), .long ((g_O_answerNoNumber n1 p1 f1 n2 p2 f2).2.2)]))] := by rw [hE]; exact hD.sub [0, 1, 2, 3] (by decide) rfl
        exact W.vret hx hb hr (fun t ht hW => ⟨⟨(), rfl, trivial, by rw [ht]; exact hP9, hD9⟩, hS.F ht⟩) hS.2.2 d_O_answerNoNumber_113
      · skip
        have c_33 : (g_R_isNoNumber p2 f2) = true := b2i_nz c_33
        refine lv_aload_n hx hb d_O_answerNoNumber_36 rfl (lv_at hl 1 rfl) ?_
        refine va_get (D := (dC, dI)) (ci := 0) (v := .ref a2) (C := R_O) (T := F_O) (N := 9) hx hb htA in_O hown hK hP 0 rfl rfl 5 (by decide) (htA _ k_105) (fun _ h9 => h9) rfl d_O_answerNoNumber_37 ?_
        refine va_getN (D := (dC, dI)) (ci := 1) (v := .long f2) (C := R_R) (T := F_R) (N := 3) hx hb htA in_R hown hK hP 3 rfl rfl 2 (by decide) (va_Nw.use rfl (hnw _ n_11)) (fun _ h9 => h9) rfl d_O_answerNoNumber_40 ?_
        refine lv_aload_n hx hb d_O_answerNoNumber_43 rfl (lv_at hl 1 rfl) ?_
        refine va_get (D := (dC, dI)) (ci := 0) (v := .ref a1) (C := R_O) (T := F_O) (N := 9) hx hb htA in_O hown hK hP 0 rfl rfl 4 (by decide) (htA _ k_104) (fun _ h9 => h9) rfl d_O_answerNoNumber_44 ?_
        refine va_getN (D := (dC, dI)) (ci := 1) (v := .long f1) (C := R_R) (T := F_R) (N := 3) hx hb htA in_R hown hK hP 2 rfl rfl 2 (by decide) (va_Nw.use rfl (hnw _ n_11)) (fun _ h9 => h9) rfl d_O_answerNoNumber_47 ?_
        have hPc := hP.sub (ws' := []) [] rfl
        have hDc := hD.sub (ws' := []) [] (by decide) rfl
        have hKc := hK.sub (tys' := []) [] rfl
        have hFc := va_free (wc := []) hD hS hA [] rfl
        refine cc_i (va_runS (As := [.long f2, .long f1]) (rest := []) ⟨hx, hb, hml, hown, htA⟩ (c_Lg_compareUnsigned l dC dI H.size f2 f1) (va_cwS 2 htA (gi_S k_129 k_34 k_2 (gi_code k_5)) rfl rfl rfl (by decide +kernel) ⟨Nat.le_of_ble_eq_true rfl, Nat.le_of_ble_eq_true rfl⟩) (pre_S hnw hPc hKc hDc) rfl rfl hl.1 rfl (lv_room (Nat.le_of_ble_eq_true rfl)) d_O_answerNoNumber_50 ⟨Nat.le_of_ble_eq_true rfl, Nat.le_of_ble_eq_true rfl⟩) hS hFc hP hD [] [0, 1, 2, 3] (wr := [(aO, .inr (0, [.ref aT, .ref aF, .int cw, .int ts, .ref a1, .ref a2, .ref a3, .ref a4, .ref a5])), (a3, .inr (1, [.int (b2i n3), .int p3, .long f3])), (a1, .inr (1, [.int (b2i n1), .int p1, .long f1])), (a2, .inr (1, [.int (b2i n2), .int p2, .long f2]))]) rfl rfl (by decide) (by decide) (fun H locs hP hD hS => ?_)
        have hP : va_P (dC, dI) classes [(aO, .inr (0, [.ref aT, .ref aF, .int cw, .int ts, .ref a1, .ref a2, .ref a3, .ref a4, .ref a5])), (a3, .inr (1, [.int (b2i n3), .int p3, .long f3])), (a1, .inr (1, [.int (b2i n1), .int p1, .long f1])), (a2, .inr (1, [.int (b2i n2), .int p2, .long f2]))] H := hP
        have hD : va_D A [(aO, .inr (0, [.ref aT, .ref aF, .int cw, .int ts, .ref a1, .ref a2, .ref a3, .ref a4, .ref a5])), (a3, .inr (1, [.int (b2i n3), .int p3, .long f3])), (a1, .inr (1, [.int (b2i n1), .int p1, .long f1])), (a2, .inr (1, [.int (b2i n2), .int p2, .long f2]))] := hD
        refine lv_istore_n (lv' := [(2, .int (g_Lg_compareUnsigned f2 f1)), (1, .int 1), (0, .ref aO)]) hx hb d_O_answerNoNumber_53 rfl hl (by decide) rfl (fun ls hl => ?_)
        refine lv_iload_n hx hb d_O_answerNoNumber_54 rfl (lv_at hl 0 rfl) ?_
        refine lv_if_gt (tgt := 72) hx hb d_O_answerNoNumber_55 (by decide) (fun c_55 => ?_) (fun c_55 => ?_)
        · skip
          have c_55 : uN f1 < uN f2 := (cU_gt _ _).mp c_55
          refine lv_iconst (v := 1) hx hb d_O_answerNoNumber_72 (by decide) ?_
          refine lv_goto (tgt := 77) hx hb d_O_answerNoNumber_73 (by decide) ?_
          refine lv_istore_n (lv' := [(1, .int 1), (2, .int (g_Lg_compareUnsigned f2 f1)), (0, .ref aO)]) hx hb d_O_answerNoNumber_77 rfl hl (by decide) rfl (fun ls hl => ?_)
          refine lv_iload_n hx hb d_O_answerNoNumber_78 rfl (lv_at hl 0 rfl) ?_
          refine lv_if_eq (tgt := 89) hx hb d_O_answerNoNumber_79 (by decide) (fun c_79 => absurd c_79 (by decide)) (fun _ => ?_)
          refine lv_aload_n hx hb d_O_answerNoNumber_82 rfl (lv_at hl 2 rfl) ?_
          refine va_get (D := (dC, dI)) (ci := 0) (v := .ref a2) (C := R_O) (T := F_O) (N := 9) hx hb htA in_O hown hK hP 0 rfl rfl 5 (by decide) (htA _ k_105) (fun _ h9 => h9) rfl d_O_answerNoNumber_83 ?_
          refine lv_goto (tgt := 93) hx hb d_O_answerNoNumber_86 (by decide) ?_
          refine lv_astore_n (lv' := [(2, .ref a2), (1, .int 1), (0, .ref aO)]) hx hb d_O_answerNoNumber_93 rfl hl (by decide) rfl (fun ls hl => ?_)
          refine lv_aload_n hx hb d_O_answerNoNumber_94 rfl (lv_at hl 2 rfl) ?_
          refine va_get (D := (dC, dI)) (ci := 0) (v := .ref a3) (C := R_O) (T := F_O) (N := 9) hx hb htA in_O hown hK hP 0 rfl rfl 6 (by decide) (htA _ k_128) (fun _ h9 => h9) rfl d_O_answerNoNumber_95 ?_
          refine lv_aload_n hx hb d_O_answerNoNumber_98 rfl (lv_at hl 0 rfl) ?_
          refine va_getN (D := (dC, dI)) (ci := 1) (v := .int (b2i n2)) (C := R_R) (T := F_R) (N := 3) hx hb htA in_R hown hK hP 3 rfl rfl 0 (by decide) (va_Nw.use rfl (hnw _ n_5)) (fun _ h9 => h9) rfl d_O_answerNoNumber_99 ?_
          refine lv_aload_n hx hb d_O_answerNoNumber_102 rfl (lv_at hl 0 rfl) ?_
          refine va_getN (D := (dC, dI)) (ci := 1) (v := .int p2) (C := R_R) (T := F_R) (N := 3) hx hb htA in_R hown hK hP 3 rfl rfl 1 (by decide) (va_Nw.use rfl (hnw _ n_10)) (fun _ h9 => h9) rfl d_O_answerNoNumber_103 ?_
          refine lv_aload_n hx hb d_O_answerNoNumber_106 rfl (lv_at hl 0 rfl) ?_
          refine va_getN (D := (dC, dI)) (ci := 1) (v := .long f2) (C := R_R) (T := F_R) (N := 3) hx hb htA in_R hown hK hP 3 rfl rfl 2 (by decide) (va_Nw.use rfl (hnw _ n_11)) (fun _ h9 => h9) rfl d_O_answerNoNumber_107 ?_
          have hPc := hP.sub (ws' := [(a3, .inr (1, [.int (b2i n3), .int p3, .long f3]))]) [1] rfl
          have hDc := hD.sub (ws' := [(a3, .inr (1, [.int (b2i n3), .int p3, .long f3]))]) [1] (by decide) rfl
          have hKc := hK.sub (tys' := []) [] rfl
          have hFc := va_free (wc := [(a3, .inr (1, [.int (b2i n3), .int p3, .long f3]))]) hD hS hA [1] rfl
          refine cc_v (va_runVN (As := [.int (b2i n2), .int p2, .long f2]) (rest := []) ⟨hx, hb, hml, hown, htA⟩ (c_R_put l dC dI a3 H.size n3 p3 f3 n2 p2 f2) ⟨va_cnB 3 htA (gi_code k_18) rfl rfl rfl (hnw _ n_12) (htA _ k_20) (by decide +kernel) ⟨Nat.le_of_ble_eq_true rfl, Nat.le_of_ble_eq_true rfl⟩, htA _ k_22, htA _ k_23⟩ (pre_V hnw hPc hKc hDc (ci := 1) (q0 := 0) rfl rfl) rfl rfl hl.1 rfl (lv_room (Nat.le_of_ble_eq_true rfl)) d_O_answerNoNumber_110 ⟨Nat.le_of_ble_eq_true rfl, Nat.le_of_ble_eq_true rfl⟩) hS hFc hP hD [1] [0, 2, 3] (wr := [(aO, .inr (0, [.ref aT, .ref aF, .int cw, .int ts, .ref a1, .ref a2, .ref a3, .ref a4, .ref a5])), (a1, .inr (1, [.int (b2i n1), .int p1, .long f1])), (a2, .inr (1, [.int (b2i n2), .int p2, .long f2]))]) rfl rfl (by decide) (by decide) (fun H locs hP hD hS => ?_)
          have hP : va_P (dC, dI) classes [(aO, .inr (0, [.ref aT, .ref aF, .int cw, .int ts, .ref a1, .ref a2, .ref a3, .ref a4, .ref a5])), (a1, .inr (1, [.int (b2i n1), .int p1, .long f1])), (a2, .inr (1, [.int (b2i n2), .int p2, .long f2])), (a3, .inr (1, [.int (b2i n2), .int p2, .long f2]))] H := hP
          have hD : va_D A [(aO, .inr (0, [.ref aT, .ref aF, .int cw, .int ts, .ref a1, .ref a2, .ref a3, .ref a4, .ref a5])), (a1, .inr (1, [.int (b2i n1), .int p1, .long f1])), (a2, .inr (1, [.int (b2i n2), .int p2, .long f2])), (a3, .inr (1, [.int (b2i n2), .int p2, .long f2]))] := hD
          have hE : g_O_answerNoNumber n1 p1 f1 n2 p2 f2 = (n2, p2, f2) := by clear hP hD hl hS; unfold g_O_answerNoNumber; (try dsimp only); rw [if_neg c_7, if_pos c_23, if_pos c_33, if_pos c_55]
          have hP9 : va_P (dC, dI) classes [(aO, .inr (0, [.ref aT, .ref aF, .int cw, .int ts, .ref a1, .ref a2, .ref a3, .ref a4, .ref a5])), (a1, .inr (1, [.int (b2i n1), .int p1, .long f1])), (a2, .inr (1, [.int (b2i n2), .int p2, .long f2])), (a3, .inr (1, [.int (b2i ((g_O_answerNoNumber n1 p1 f1 n2 p2 f2).1)), .int ((g_O_answerNoNumber n1 p1 f1 n2 p2 f2).2.1), .long ((g_O_answerNoNumber n1 p1 f1 n2 p2 f2).2.2)]))] H := by rw [hE]; exact hP.sub [0, 1, 2, 3] rfl
          have hD9 : va_D A [(aO, .inr (0, [.ref aT, .ref aF, .int cw, .int ts, .ref a1, .ref a2, .ref a3, .ref a4, .ref a5])), (a1, .inr (1, [.int (b2i n1), .int p1, .long f1])), (a2, .inr (1, [.int (b2i n2), .int p2, .long f2])), (a3, .inr (1, [.int (b2i ((g_O_answerNoNumber n1 p1 f1 n2 p2 f2).1)), .int ((g_O_answerNoNumber n1 p1 f1 n2 p2 f2).2.1), .long ((g_O_answerNoNumber n1 p1 f1 n2 p2 f2).2.2)]))] := by rw [hE]; exact hD.sub [0, 1, 2, 3] (by decide) rfl
          exact W.vret hx hb hr (fun t ht hW => ⟨⟨(), rfl, trivial, by rw [ht]; exact hP9, hD9⟩, hS.F ht⟩) hS.2.2 d_O_answerNoNumber_113
        · skip
          have c_55 : ¬ uN f1 < uN f2 := fun h9 => c_55 ((cU_gt _ _).mpr h9)
          refine lv_iload_n hx hb d_O_answerNoNumber_58 rfl (lv_at hl 0 rfl) ?_
          refine lv_if_ne (tgt := 76) hx hb d_O_answerNoNumber_59 (by decide) (fun c_59 => ?_) (fun c_59 => ?_)
          · skip
            have c_59 : ¬ uN f2 = uN f1 := fun h9 => c_59 ((cU_eq _ _).mpr h9)
            refine lv_iconst (v := 0) hx hb d_O_answerNoNumber_76 (by decide) ?_
            refine lv_istore_n (lv' := [(1, .int 0), (2, .int (g_Lg_compareUnsigned f2 f1)), (0, .ref aO)]) hx hb d_O_answerNoNumber_77 rfl hl (by decide) rfl (fun ls hl => ?_)
            refine lv_iload_n hx hb d_O_answerNoNumber_78 rfl (lv_at hl 0 rfl) ?_
            refine lv_if_eq (tgt := 89) hx hb d_O_answerNoNumber_79 (by decide) (fun _ => ?_) (fun c_79 => absurd c_79 (by decide))
            refine lv_aload_n hx hb d_O_answerNoNumber_89 rfl (lv_at hl 2 rfl) ?_
            refine va_get (D := (dC, dI)) (ci := 0) (v := .ref a1) (C := R_O) (T := F_O) (N := 9) hx hb htA in_O hown hK hP 0 rfl rfl 4 (by decide) (htA _ k_104) (fun _ h9 => h9) rfl d_O_answerNoNumber_90 ?_
            refine lv_astore_n (lv' := [(2, .ref a1), (1, .int 0), (0, .ref aO)]) hx hb d_O_answerNoNumber_93 rfl hl (by decide) rfl (fun ls hl => ?_)
            refine lv_aload_n hx hb d_O_answerNoNumber_94 rfl (lv_at hl 2 rfl) ?_
            refine va_get (D := (dC, dI)) (ci := 0) (v := .ref a3) (C := R_O) (T := F_O) (N := 9) hx hb htA in_O hown hK hP 0 rfl rfl 6 (by decide) (htA _ k_128) (fun _ h9 => h9) rfl d_O_answerNoNumber_95 ?_
            refine lv_aload_n hx hb d_O_answerNoNumber_98 rfl (lv_at hl 0 rfl) ?_
            refine va_getN (D := (dC, dI)) (ci := 1) (v := .int (b2i n1)) (C := R_R) (T := F_R) (N := 3) hx hb htA in_R hown hK hP 2 rfl rfl 0 (by decide) (va_Nw.use rfl (hnw _ n_5)) (fun _ h9 => h9) rfl d_O_answerNoNumber_99 ?_
            refine lv_aload_n hx hb d_O_answerNoNumber_102 rfl (lv_at hl 0 rfl) ?_
            refine va_getN (D := (dC, dI)) (ci := 1) (v := .int p1) (C := R_R) (T := F_R) (N := 3) hx hb htA in_R hown hK hP 2 rfl rfl 1 (by decide) (va_Nw.use rfl (hnw _ n_10)) (fun _ h9 => h9) rfl d_O_answerNoNumber_103 ?_
            refine lv_aload_n hx hb d_O_answerNoNumber_106 rfl (lv_at hl 0 rfl) ?_
            refine va_getN (D := (dC, dI)) (ci := 1) (v := .long f1) (C := R_R) (T := F_R) (N := 3) hx hb htA in_R hown hK hP 2 rfl rfl 2 (by decide) (va_Nw.use rfl (hnw _ n_11)) (fun _ h9 => h9) rfl d_O_answerNoNumber_107 ?_
            have hPc := hP.sub (ws' := [(a3, .inr (1, [.int (b2i n3), .int p3, .long f3]))]) [1] rfl
            have hDc := hD.sub (ws' := [(a3, .inr (1, [.int (b2i n3), .int p3, .long f3]))]) [1] (by decide) rfl
            have hKc := hK.sub (tys' := []) [] rfl
            have hFc := va_free (wc := [(a3, .inr (1, [.int (b2i n3), .int p3, .long f3]))]) hD hS hA [1] rfl
            refine cc_v (va_runVN (As := [.int (b2i n1), .int p1, .long f1]) (rest := []) ⟨hx, hb, hml, hown, htA⟩ (c_R_put l dC dI a3 H.size n3 p3 f3 n1 p1 f1) ⟨va_cnB 3 htA (gi_code k_18) rfl rfl rfl (hnw _ n_12) (htA _ k_20) (by decide +kernel) ⟨Nat.le_of_ble_eq_true rfl, Nat.le_of_ble_eq_true rfl⟩, htA _ k_22, htA _ k_23⟩ (pre_V hnw hPc hKc hDc (ci := 1) (q0 := 0) rfl rfl) rfl rfl hl.1 rfl (lv_room (Nat.le_of_ble_eq_true rfl)) d_O_answerNoNumber_110 ⟨Nat.le_of_ble_eq_true rfl, Nat.le_of_ble_eq_true rfl⟩) hS hFc hP hD [1] [0, 2, 3] (wr := [(aO, .inr (0, [.ref aT, .ref aF, .int cw, .int ts, .ref a1, .ref a2, .ref a3, .ref a4, .ref a5])), (a1, .inr (1, [.int (b2i n1), .int p1, .long f1])), (a2, .inr (1, [.int (b2i n2), .int p2, .long f2]))]) rfl rfl (by decide) (by decide) (fun H locs hP hD hS => ?_)
            have hP : va_P (dC, dI) classes [(aO, .inr (0, [.ref aT, .ref aF, .int cw, .int ts, .ref a1, .ref a2, .ref a3, .ref a4, .ref a5])), (a1, .inr (1, [.int (b2i n1), .int p1, .long f1])), (a2, .inr (1, [.int (b2i n2), .int p2, .long f2])), (a3, .inr (1, [.int (b2i n1), .int p1, .long f1]))] H := hP
            have hD : va_D A [(aO, .inr (0, [.ref aT, .ref aF, .int cw, .int ts, .ref a1, .ref a2, .ref a3, .ref a4, .ref a5])), (a1, .inr (1, [.int (b2i n1), .int p1, .long f1])), (a2, .inr (1, [.int (b2i n2), .int p2, .long f2])), (a3, .inr (1, [.int (b2i n1), .int p1, .long f1]))] := hD
            have hE : g_O_answerNoNumber n1 p1 f1 n2 p2 f2 = (n1, p1, f1) := by clear hP hD hl hS; unfold g_O_answerNoNumber; (try dsimp only); rw [if_neg c_7, if_pos c_23, if_pos c_33, if_neg c_55, if_neg c_59]
            have hP9 : va_P (dC, dI) classes [(aO, .inr (0, [.ref aT, .ref aF, .int cw, .int ts, .ref a1, .ref a2, .ref a3, .ref a4, .ref a5])), (a1, .inr (1, [.int (b2i n1), .int p1, .long f1])), (a2, .inr (1, [.int (b2i n2), .int p2, .long f2])), (a3, .inr (1, [.int (b2i ((g_O_answerNoNumber n1 p1 f1 n2 p2 f2).1)), .int ((g_O_answerNoNumber n1 p1 f1 n2 p2 f2).2.1), .long ((g_O_answerNoNumber n1 p1 f1 n2 p2 f2).2.2)]))] H := by rw [hE]; exact hP.sub [0, 1, 2, 3] rfl
            have hD9 : va_D A [(aO, .inr (0, [.ref aT, .ref aF, .int cw, .int ts, .ref a1, .ref a2, .ref a3, .ref a4, .ref a5])), (a1, .inr (1, [.int (b2i n1), .int p1, .long f1])), (a2, .inr (1, [.int (b2i n2), .int p2, .long f2])), (a3, .inr (1, [.int (b2i ((g_O_answerNoNumber n1 p1 f1 n2 p2 f2).1)), .int ((g_O_answerNoNumber n1 p1 f1 n2 p2 f2).2.1), .long ((g_O_answerNoNumber n1 p1 f1 n2 p2 f2).2.2)]))] := by rw [hE]; exact hD.sub [0, 1, 2, 3] (by decide) rfl
            exact W.vret hx hb hr (fun t ht hW => ⟨⟨(), rfl, trivial, by rw [ht]; exact hP9, hD9⟩, hS.F ht⟩) hS.2.2 d_O_answerNoNumber_113
          · skip
            have c_59 : uN f2 = uN f1 := (cU_eq _ _).mp c_59
            refine lv_aload_n hx hb d_O_answerNoNumber_62 rfl (lv_at hl 2 rfl) ?_
            refine va_get (D := (dC, dI)) (ci := 0) (v := .ref a1) (C := R_O) (T := F_O) (N := 9) hx hb htA in_O hown hK hP 0 rfl rfl 4 (by decide) (htA _ k_104) (fun _ h9 => h9) rfl d_O_answerNoNumber_63 ?_
            refine va_getN (D := (dC, dI)) (ci := 1) (v := .int (b2i n1)) (C := R_R) (T := F_R) (N := 3) hx hb htA in_R hown hK hP 2 rfl rfl 0 (by decide) (va_Nw.use rfl (hnw _ n_5)) (fun _ h9 => h9) rfl d_O_answerNoNumber_66 ?_
            refine lv_if_eq (tgt := 76) hx hb d_O_answerNoNumber_69 (by decide) (fun c_69 => ?_) (fun c_69 => ?_)
            · skip
              have c_69 : ¬ n1 = true := b2i_z c_69
              refine lv_iconst (v := 0) hx hb d_O_answerNoNumber_76 (by decide) ?_
              refine lv_istore_n (lv' := [(1, .int 0), (2, .int (g_Lg_compareUnsigned f2 f1)), (0, .ref aO)]) hx hb d_O_answerNoNumber_77 rfl hl (by decide) rfl (fun ls hl => ?_)
              refine lv_iload_n hx hb d_O_answerNoNumber_78 rfl (lv_at hl 0 rfl) ?_
              refine lv_if_eq (tgt := 89) hx hb d_O_answerNoNumber_79 (by decide) (fun _ => ?_) (fun c_79 => absurd c_79 (by decide))
              refine lv_aload_n hx hb d_O_answerNoNumber_89 rfl (lv_at hl 2 rfl) ?_
              refine va_get (D := (dC, dI)) (ci := 0) (v := .ref a1) (C := R_O) (T := F_O) (N := 9) hx hb htA in_O hown hK hP 0 rfl rfl 4 (by decide) (htA _ k_104) (fun _ h9 => h9) rfl d_O_answerNoNumber_90 ?_
              refine lv_astore_n (lv' := [(2, .ref a1), (1, .int 0), (0, .ref aO)]) hx hb d_O_answerNoNumber_93 rfl hl (by decide) rfl (fun ls hl => ?_)
              refine lv_aload_n hx hb d_O_answerNoNumber_94 rfl (lv_at hl 2 rfl) ?_
              refine va_get (D := (dC, dI)) (ci := 0) (v := .ref a3) (C := R_O) (T := F_O) (N := 9) hx hb htA in_O hown hK hP 0 rfl rfl 6 (by decide) (htA _ k_128) (fun _ h9 => h9) rfl d_O_answerNoNumber_95 ?_
              refine lv_aload_n hx hb d_O_answerNoNumber_98 rfl (lv_at hl 0 rfl) ?_
              refine va_getN (D := (dC, dI)) (ci := 1) (v := .int (b2i n1)) (C := R_R) (T := F_R) (N := 3) hx hb htA in_R hown hK hP 2 rfl rfl 0 (by decide) (va_Nw.use rfl (hnw _ n_5)) (fun _ h9 => h9) rfl d_O_answerNoNumber_99 ?_
              refine lv_aload_n hx hb d_O_answerNoNumber_102 rfl (lv_at hl 0 rfl) ?_
              refine va_getN (D := (dC, dI)) (ci := 1) (v := .int p1) (C := R_R) (T := F_R) (N := 3) hx hb htA in_R hown hK hP 2 rfl rfl 1 (by decide) (va_Nw.use rfl (hnw _ n_10)) (fun _ h9 => h9) rfl d_O_answerNoNumber_103 ?_
              refine lv_aload_n hx hb d_O_answerNoNumber_106 rfl (lv_at hl 0 rfl) ?_
              refine va_getN (D := (dC, dI)) (ci := 1) (v := .long f1) (C := R_R) (T := F_R) (N := 3) hx hb htA in_R hown hK hP 2 rfl rfl 2 (by decide) (va_Nw.use rfl (hnw _ n_11)) (fun _ h9 => h9) rfl d_O_answerNoNumber_107 ?_
              have hPc := hP.sub (ws' := [(a3, .inr (1, [.int (b2i n3), .int p3, .long f3]))]) [1] rfl
              have hDc := hD.sub (ws' := [(a3, .inr (1, [.int (b2i n3), .int p3, .long f3]))]) [1] (by decide) rfl
              have hKc := hK.sub (tys' := []) [] rfl
              have hFc := va_free (wc := [(a3, .inr (1, [.int (b2i n3), .int p3, .long f3]))]) hD hS hA [1] rfl
              refine cc_v (va_runVN (As := [.int (b2i n1), .int p1, .long f1]) (rest := []) ⟨hx, hb, hml, hown, htA⟩ (c_R_put l dC dI a3 H.size n3 p3 f3 n1 p1 f1) ⟨va_cnB 3 htA (gi_code k_18) rfl rfl rfl (hnw _ n_12) (htA _ k_20) (by decide +kernel) ⟨Nat.le_of_ble_eq_true rfl, Nat.le_of_ble_eq_true rfl⟩, htA _ k_22, htA _ k_23⟩ (pre_V hnw hPc hKc hDc (ci := 1) (q0 := 0) rfl rfl) rfl rfl hl.1 rfl (lv_room (Nat.le_of_ble_eq_true rfl)) d_O_answerNoNumber_110 ⟨Nat.le_of_ble_eq_true rfl, Nat.le_of_ble_eq_true rfl⟩) hS hFc hP hD [1] [0, 2, 3] (wr := [(aO, .inr (0, [.ref aT, .ref aF, .int cw, .int ts, .ref a1, .ref a2, .ref a3, .ref a4, .ref a5])), (a1, .inr (1, [.int (b2i n1), .int p1, .long f1])), (a2, .inr (1, [.int (b2i n2), .int p2, .long f2]))]) rfl rfl (by decide) (by decide) (fun H locs hP hD hS => ?_)
              have hP : va_P (dC, dI) classes [(aO, .inr (0, [.ref aT, .ref aF, .int cw, .int ts, .ref a1, .ref a2, .ref a3, .ref a4, .ref a5])), (a1, .inr (1, [.int (b2i n1), .int p1, .long f1])), (a2, .inr (1, [.int (b2i n2), .int p2, .long f2])), (a3, .inr (1, [.int (b2i n1), .int p1, .long f1]))] H := hP
              have hD : va_D A [(aO, .inr (0, [.ref aT, .ref aF, .int cw, .int ts, .ref a1, .ref a2, .ref a3, .ref a4, .ref a5])), (a1, .inr (1, [.int (b2i n1), .int p1, .long f1])), (a2, .inr (1, [.int (b2i n2), .int p2, .long f2])), (a3, .inr (1, [.int (b2i n1), .int p1, .long f1]))] := hD
              have hE : g_O_answerNoNumber n1 p1 f1 n2 p2 f2 = (n1, p1, f1) := by clear hP hD hl hS; unfold g_O_answerNoNumber; (try dsimp only); rw [if_neg c_7, if_pos c_23, if_pos c_33, if_neg c_55, if_pos c_59, if_neg c_69]
              have hP9 : va_P (dC, dI) classes [(aO, .inr (0, [.ref aT, .ref aF, .int cw, .int ts, .ref a1, .ref a2, .ref a3, .ref a4, .ref a5])), (a1, .inr (1, [.int (b2i n1), .int p1, .long f1])), (a2, .inr (1, [.int (b2i n2), .int p2, .long f2])), (a3, .inr (1, [.int (b2i ((g_O_answerNoNumber n1 p1 f1 n2 p2 f2).1)), .int ((g_O_answerNoNumber n1 p1 f1 n2 p2 f2).2.1), .long ((g_O_answerNoNumber n1 p1 f1 n2 p2 f2).2.2)]))] H := by rw [hE]; exact hP.sub [0, 1, 2, 3] rfl
              have hD9 : va_D A [(aO, .inr (0, [.ref aT, .ref aF, .int cw, .int ts, .ref a1, .ref a2, .ref a3, .ref a4, .ref a5])), (a1, .inr (1, [.int (b2i n1), .int p1, .long f1])), (a2, .inr (1, [.int (b2i n2), .int p2, .long f2])), (a3, .inr (1, [.int (b2i ((g_O_answerNoNumber n1 p1 f1 n2 p2 f2).1)), .int ((g_O_answerNoNumber n1 p1 f1 n2 p2 f2).2.1), .long ((g_O_answerNoNumber n1 p1 f1 n2 p2 f2).2.2)]))] := by rw [hE]; exact hD.sub [0, 1, 2, 3] (by decide) rfl
              exact W.vret hx hb hr (fun t ht hW => ⟨⟨(), rfl, trivial, by rw [ht]; exact hP9, hD9⟩, hS.F ht⟩) hS.2.2 d_O_answerNoNumber_113
            · skip
              have c_69 : n1 = true := b2i_nz c_69
              refine lv_iconst (v := 1) hx hb d_O_answerNoNumber_72 (by decide) ?_
              refine lv_goto (tgt := 77) hx hb d_O_answerNoNumber_73 (by decide) ?_
              refine lv_istore_n (lv' := [(1, .int 1), (2, .int (g_Lg_compareUnsigned f2 f1)), (0, .ref aO)]) hx hb d_O_answerNoNumber_77 rfl hl (by decide) rfl (fun ls hl => ?_)
              refine lv_iload_n hx hb d_O_answerNoNumber_78 rfl (lv_at hl 0 rfl) ?_
              refine lv_if_eq (tgt := 89) hx hb d_O_answerNoNumber_79 (by decide) (fun c_79 => absurd c_79 (by decide)) (fun _ => ?_)
              refine lv_aload_n hx hb d_O_answerNoNumber_82 rfl (lv_at hl 2 rfl) ?_
              refine va_get (D := (dC, dI)) (ci := 0) (v := .ref a2) (C := R_O) (T := F_O) (N := 9) hx hb htA in_O hown hK hP 0 rfl rfl 5 (by decide) (htA _ k_105) (fun _ h9 => h9) rfl d_O_answerNoNumber_83 ?_
              refine lv_goto (tgt := 93) hx hb d_O_answerNoNumber_86 (by decide) ?_
              refine lv_astore_n (lv' := [(2, .ref a2), (1, .int 1), (0, .ref aO)]) hx hb d_O_answerNoNumber_93 rfl hl (by decide) rfl (fun ls hl => ?_)
              refine lv_aload_n hx hb d_O_answerNoNumber_94 rfl (lv_at hl 2 rfl) ?_
              refine va_get (D := (dC, dI)) (ci := 0) (v := .ref a3) (C := R_O) (T := F_O) (N := 9) hx hb htA in_O hown hK hP 0 rfl rfl 6 (by decide) (htA _ k_128) (fun _ h9 => h9) rfl d_O_answerNoNumber_95 ?_
              refine lv_aload_n hx hb d_O_answerNoNumber_98 rfl (lv_at hl 0 rfl) ?_
              refine va_getN (D := (dC, dI)) (ci := 1) (v := .int (b2i n2)) (C := R_R) (T := F_R) (N := 3) hx hb htA in_R hown hK hP 3 rfl rfl 0 (by decide) (va_Nw.use rfl (hnw _ n_5)) (fun _ h9 => h9) rfl d_O_answerNoNumber_99 ?_
              refine lv_aload_n hx hb d_O_answerNoNumber_102 rfl (lv_at hl 0 rfl) ?_
              refine va_getN (D := (dC, dI)) (ci := 1) (v := .int p2) (C := R_R) (T := F_R) (N := 3) hx hb htA in_R hown hK hP 3 rfl rfl 1 (by decide) (va_Nw.use rfl (hnw _ n_10)) (fun _ h9 => h9) rfl d_O_answerNoNumber_103 ?_
              refine lv_aload_n hx hb d_O_answerNoNumber_106 rfl (lv_at hl 0 rfl) ?_
              refine va_getN (D := (dC, dI)) (ci := 1) (v := .long f2) (C := R_R) (T := F_R) (N := 3) hx hb htA in_R hown hK hP 3 rfl rfl 2 (by decide) (va_Nw.use rfl (hnw _ n_11)) (fun _ h9 => h9) rfl d_O_answerNoNumber_107 ?_
              have hPc := hP.sub (ws' := [(a3, .inr (1, [.int (b2i n3), .int p3, .long f3]))]) [1] rfl
              have hDc := hD.sub (ws' := [(a3, .inr (1, [.int (b2i n3), .int p3, .long f3]))]) [1] (by decide) rfl
              have hKc := hK.sub (tys' := []) [] rfl
              have hFc := va_free (wc := [(a3, .inr (1, [.int (b2i n3), .int p3, .long f3]))]) hD hS hA [1] rfl
              refine cc_v (va_runVN (As := [.int (b2i n2), .int p2, .long f2]) (rest := []) ⟨hx, hb, hml, hown, htA⟩ (c_R_put l dC dI a3 H.size n3 p3 f3 n2 p2 f2) ⟨va_cnB 3 htA (gi_code k_18) rfl rfl rfl (hnw _ n_12) (htA _ k_20) (by decide +kernel) ⟨Nat.le_of_ble_eq_true rfl, Nat.le_of_ble_eq_true rfl⟩, htA _ k_22, htA _ k_23⟩ (pre_V hnw hPc hKc hDc (ci := 1) (q0 := 0) rfl rfl) rfl rfl hl.1 rfl (lv_room (Nat.le_of_ble_eq_true rfl)) d_O_answerNoNumber_110 ⟨Nat.le_of_ble_eq_true rfl, Nat.le_of_ble_eq_true rfl⟩) hS hFc hP hD [1] [0, 2, 3] (wr := [(aO, .inr (0, [.ref aT, .ref aF, .int cw, .int ts, .ref a1, .ref a2, .ref a3, .ref a4, .ref a5])), (a1, .inr (1, [.int (b2i n1), .int p1, .long f1])), (a2, .inr (1, [.int (b2i n2), .int p2, .long f2]))]) rfl rfl (by decide) (by decide) (fun H locs hP hD hS => ?_)
              have hP : va_P (dC, dI) classes [(aO, .inr (0, [.ref aT, .ref aF, .int cw, .int ts, .ref a1, .ref a2, .ref a3, .ref a4, .ref a5])), (a1, .inr (1, [.int (b2i n1), .int p1, .long f1])), (a2, .inr (1, [.int (b2i n2), .int p2, .long f2])), (a3, .inr (1, [.int (b2i n2), .int p2, .long f2]))] H := hP
              have hD : va_D A [(aO, .inr (0, [.ref aT, .ref aF, .int cw, .int ts, .ref a1, .ref a2, .ref a3, .ref a4, .ref a5])), (a1, .inr (1, [.int (b2i n1), .int p1, .long f1])), (a2, .inr (1, [.int (b2i n2), .int p2, .long f2])), (a3, .inr (1, [.int (b2i n2), .int p2, .long f2]))] := hD
              have hE : g_O_answerNoNumber n1 p1 f1 n2 p2 f2 = (n2, p2, f2) := by clear hP hD hl hS; unfold g_O_answerNoNumber; (try dsimp only); rw [if_neg c_7, if_pos c_23, if_pos c_33, if_neg c_55, if_pos c_59, if_pos c_69]
              have hP9 : va_P (dC, dI) classes [(aO, .inr (0, [.ref aT, .ref aF, .int cw, .int ts, .ref a1, .ref a2, .ref a3, .ref a4, .ref a5])), (a1, .inr (1, [.int (b2i n1), .int p1, .long f1])), (a2, .inr (1, [.int (b2i n2), .int p2, .long f2])), (a3, .inr (1, [.int (b2i ((g_O_answerNoNumber n1 p1 f1 n2 p2 f2).1)), .int ((g_O_answerNoNumber n1 p1 f1 n2 p2 f2).2.1), .long ((g_O_answerNoNumber n1 p1 f1 n2 p2 f2).2.2)]))] H := by rw [hE]; exact hP.sub [0, 1, 2, 3] rfl
              have hD9 : va_D A [(aO, .inr (0, [.ref aT, .ref aF, .int cw, .int ts, .ref a1, .ref a2, .ref a3, .ref a4, .ref a5])), (a1, .inr (1, [.int (b2i n1), .int p1, .long f1])), (a2, .inr (1, [.int (b2i n2), .int p2, .long f2])), (a3, .inr (1, [.int (b2i ((g_O_answerNoNumber n1 p1 f1 n2 p2 f2).1)), .int ((g_O_answerNoNumber n1 p1 f1 n2 p2 f2).2.1), .long ((g_O_answerNoNumber n1 p1 f1 n2 p2 f2).2.2)]))] := by rw [hE]; exact hD.sub [0, 1, 2, 3] (by decide) rfl
              exact W.vret hx hb hr (fun t ht hW => ⟨⟨(), rfl, trivial, by rw [ht]; exact hP9, hD9⟩, hS.F ht⟩) hS.2.2 d_O_answerNoNumber_113
theorem d_O_answerOfInfinite_0 : decode b_O_answerOfInfinite 0 = .ok (.iload_n 1, 1) := by decide +kernel
theorem d_O_answerOfInfinite_1 : decode b_O_answerOfInfinite 1 = .ok (.invokestatic 124, 3) := by decide +kernel
theorem d_O_answerOfInfinite_4 : decode b_O_answerOfInfinite 4 = .ok (.ifCond .eq 27, 3) := by decide +kernel
theorem d_O_answerOfInfinite_31 : decode b_O_answerOfInfinite 31 = .ok (.aload_n 0, 1) := by decide +kernel
theorem d_O_answerOfInfinite_32 : decode b_O_answerOfInfinite 32 = .ok (.invokevirtual 133, 3) := by decide +kernel
theorem d_O_answerOfInfinite_35 : decode b_O_answerOfInfinite 35 = .ok (.istore_n 2, 1) := by decide +kernel
theorem d_O_answerOfInfinite_36 : decode b_O_answerOfInfinite 36 = .ok (.iload_n 1, 1) := by decide +kernel
theorem d_O_answerOfInfinite_37 : decode b_O_answerOfInfinite 37 = .ok (.invokestatic 161, 3) := by decide +kernel
theorem d_O_answerOfInfinite_40 : decode b_O_answerOfInfinite 40 = .ok (.ifCond .eq 31, 3) := by decide +kernel
theorem d_O_answerOfInfinite_71 : decode b_O_answerOfInfinite 71 = .ok (.aload_n 0, 1) := by decide +kernel
theorem d_O_answerOfInfinite_72 : decode b_O_answerOfInfinite 72 = .ok (.getfield 34, 3) := by decide +kernel
theorem d_O_answerOfInfinite_75 : decode b_O_answerOfInfinite 75 = .ok (.iload_n 2, 1) := by decide +kernel
theorem d_O_answerOfInfinite_76 : decode b_O_answerOfInfinite 76 = .ok (.sipush 32767, 3) := by decide +kernel
theorem d_O_answerOfInfinite_79 : decode b_O_answerOfInfinite 79 = .ok (.ldc2_w 136, 3) := by decide +kernel
theorem d_O_answerOfInfinite_82 : decode b_O_answerOfInfinite 82 = .ok (.invokevirtual 117, 3) := by decide +kernel
theorem d_O_answerOfInfinite_85 : decode b_O_answerOfInfinite 85 = .ok (.return_, 1) := by decide +kernel
theorem d_O_answerOfInfinite_43 : decode b_O_answerOfInfinite 43 = .ok (.aload_n 0, 1) := by decide +kernel
theorem d_O_answerOfInfinite_44 : decode b_O_answerOfInfinite 44 = .ok (.getfield 27, 3) := by decide +kernel
theorem d_O_answerOfInfinite_47 : decode b_O_answerOfInfinite 47 = .ok (.invokevirtual 130, 3) := by decide +kernel
theorem d_O_answerOfInfinite_50 : decode b_O_answerOfInfinite 50 = .ok (.ifCond .eq 13, 3) := by decide +kernel
theorem d_O_answerOfInfinite_63 : decode b_O_answerOfInfinite 63 = .ok (.aload_n 0, 1) := by decide +kernel
theorem d_O_answerOfInfinite_64 : decode b_O_answerOfInfinite 64 = .ok (.getfield 31, 3) := by decide +kernel
theorem d_O_answerOfInfinite_67 : decode b_O_answerOfInfinite 67 = .ok (.getfield 108, 3) := by decide +kernel
theorem d_O_answerOfInfinite_70 : decode b_O_answerOfInfinite 70 = .ok (.istore_n 2, 1) := by decide +kernel
theorem d_O_answerOfInfinite_53 : decode b_O_answerOfInfinite 53 = .ok (.aload_n 0, 1) := by decide +kernel
theorem d_O_answerOfInfinite_54 : decode b_O_answerOfInfinite 54 = .ok (.getfield 27, 3) := by decide +kernel
theorem d_O_answerOfInfinite_57 : decode b_O_answerOfInfinite 57 = .ok (.getfield 108, 3) := by decide +kernel
theorem d_O_answerOfInfinite_60 : decode b_O_answerOfInfinite 60 = .ok (.goto 10, 3) := by decide +kernel
theorem d_O_answerOfInfinite_7 : decode b_O_answerOfInfinite 7 = .ok (.aload_n 0, 1) := by decide +kernel
theorem d_O_answerOfInfinite_8 : decode b_O_answerOfInfinite 8 = .ok (.getfield 31, 3) := by decide +kernel
theorem d_O_answerOfInfinite_11 : decode b_O_answerOfInfinite 11 = .ok (.invokevirtual 130, 3) := by decide +kernel
theorem d_O_answerOfInfinite_14 : decode b_O_answerOfInfinite 14 = .ok (.ifCond .eq 17, 3) := by decide +kernel
theorem d_O_answerOfInfinite_17 : decode b_O_answerOfInfinite 17 = .ok (.aload_n 0, 1) := by decide +kernel
theorem d_O_answerOfInfinite_18 : decode b_O_answerOfInfinite 18 = .ok (.getfield 34, 3) := by decide +kernel
theorem d_O_answerOfInfinite_21 : decode b_O_answerOfInfinite 21 = .ok (.aload_n 0, 1) := by decide +kernel
theorem d_O_answerOfInfinite_22 : decode b_O_answerOfInfinite 22 = .ok (.invokevirtual 133, 3) := by decide +kernel
theorem d_O_answerOfInfinite_25 : decode b_O_answerOfInfinite 25 = .ok (.iconst 0, 1) := by decide +kernel
theorem d_O_answerOfInfinite_26 : decode b_O_answerOfInfinite 26 = .ok (.lconst 0, 1) := by decide +kernel
theorem d_O_answerOfInfinite_27 : decode b_O_answerOfInfinite 27 = .ok (.invokevirtual 117, 3) := by decide +kernel
theorem d_O_answerOfInfinite_30 : decode b_O_answerOfInfinite 30 = .ok (.return_, 1) := by decide +kernel
set_option maxHeartbeats 4000000 in
set_option maxRecDepth 100000 in
theorem c_O_answerOfInfinite (l : Launch) (dC : Nat → ClassId) (dI : Nat → Nat → Nat) (aO : Nat) (a1 : Nat) (a2 : Nat) (a3 : Nat) (aT : Nat) (aF : Nat) (a4 : Nat) (a5 : Nat) (sz : Nat) (cw : Int32) (ts : Int32) (n1 : Bool) (p1 : Int32) (f1 : Int64) (n2 : Bool) (p2 : Int32) (f2 : Int64) (n3 : Bool) (p3 : Int32) (f3 : Int64) (iop : Int32) : Met l y_O_answerOfInfinite w_O_answerOfInfinite ({ frames := 2, cells := 0, slots := 0, locals := 40 }) (cPc (dC, dI) [] [.ref aO, .int iop] [(aO, .inr (0, [.ref aT, .ref aF, .int cw, .int ts, .ref a1, .ref a2, .ref a3, .ref a4, .ref a5])), (a1, .inr (1, [.int (b2i n1), .int p1, .long f1])), (a2, .inr (1, [.int (b2i n2), .int p2, .long f2])), (a3, .inr (1, [.int (b2i n3), .int p3, .long f3]))] sz) (va_Qv (fun (_ : Unit) => True) (fun _ t => va_P (dC, dI) classes [(aO, .inr (0, [.ref aT, .ref aF, .int cw, .int ts, .ref a1, .ref a2, .ref a3, .ref a4, .ref a5])), (a1, .inr (1, [.int (b2i n1), .int p1, .long f1])), (a2, .inr (1, [.int (b2i n2), .int p2, .long f2])), (a3, .inr (1, [.int (b2i ((g_O_answerOfInfinite n1 p1 f1 n2 p2 f2 iop).1)), .int ((g_O_answerOfInfinite n1 p1 f1 n2 p2 f2 iop).2.1), .long ((g_O_answerOfInfinite n1 p1 f1 n2 p2 f2 iop).2.2)]))] t.heap ∧ va_D (va_A [(aO, .inr (0, [.ref aT, .ref aF, .int cw, .int ts, .ref a1, .ref a2, .ref a3, .ref a4, .ref a5])), (a1, .inr (1, [.int (b2i n1), .int p1, .long f1])), (a2, .inr (1, [.int (b2i n2), .int p2, .long f2])), (a3, .inr (1, [.int (b2i n3), .int p3, .long f3]))] sz) [(aO, .inr (0, [.ref aT, .ref aF, .int cw, .int ts, .ref a1, .ref a2, .ref a3, .ref a4, .ref a5])), (a1, .inr (1, [.int (b2i n1), .int p1, .long f1])), (a2, .inr (1, [.int (b2i n2), .int p2, .long f2])), (a3, .inr (1, [.int (b2i ((g_O_answerOfInfinite n1 p1 f1 n2 p2 f2 iop).1)), .int ((g_O_answerOfInfinite n1 p1 f1 n2 p2 f2 iop).2.1), .long ((g_O_answerOfInfinite n1 p1 f1 n2 p2 f2 iop).2.2)]))]) (va_A [(aO, .inr (0, [.ref aT, .ref aF, .int cw, .int ts, .ref a1, .ref a2, .ref a3, .ref a4, .ref a5])), (a1, .inr (1, [.int (b2i n1), .int p1, .long f1])), (a2, .inr (1, [.int (b2i n2), .int p2, .long f2])), (a3, .inr (1, [.int (b2i n3), .int p3, .long f3]))] sz)) 0 0 (va_A [(aO, .inr (0, [.ref aT, .ref aF, .int cw, .int ts, .ref a1, .ref a2, .ref a3, .ref a4, .ref a5])), (a1, .inr (1, [.int (b2i n1), .int p1, .long f1])), (a2, .inr (1, [.int (b2i n2), .int p2, .long f2])), (a3, .inr (1, [.int (b2i n3), .int p3, .long f3]))] sz) := by
  refine Met.ofW (cc := b_O_answerOfInfinite) (maxL := 3) (ret := none) (by decide) rfl ?_
  intro p e s m args below meth c s₁ B hml hv
  obtain ⟨rfl, hsz, hP, hK, hD0, hnw⟩ := hv
  have hx := B.exec
  have hb := B.bytes
  have hr := B.returns
  have hts := atoms_spec (ws := w_O_answerOfInfinite) B.pre
  have htA : ∀ w ∈ wAll, w.before _ s = true := fun w h => hts w (List.mem_cons_of_mem _ h)
  have hown : s.vm.findClass R_O = some m.cls := findClass_of_methodNamed B.named
  have hlocks := B.notSynchronized
  subst hsz
  have hD := hD0.self (sz := s.heap.size)
  generalize hAe : va_A [(aO, .inr (0, [.ref aT, .ref aF, .int cw, .int ts, .ref a1, .ref a2, .ref a3, .ref a4, .ref a5])), (a1, .inr (1, [.int (b2i n1), .int p1, .long f1])), (a2, .inr (1, [.int (b2i n2), .int p2, .long f2])), (a3, .inr (1, [.int (b2i n3), .int p3, .long f3]))] s.heap.size = A at hD ⊢
  have hA : ∀ q : Nat, s.heap.size ≤ q → A q := fun q h => by rw [← hAe]; exact Or.inr h
  have hS : va_S A s.heap s.heap [] := va_S.rf
  have hP : va_P (dC, dI) classes [(aO, .inr (0, [.ref aT, .ref aF, .int cw, .int ts, .ref a1, .ref a2, .ref a3, .ref a4, .ref a5])), (a1, .inr (1, [.int (b2i n1), .int p1, .long f1])), (a2, .inr (1, [.int (b2i n2), .int p2, .long f2])), (a3, .inr (1, [.int (b2i n3), .int p3, .long f3]))] s.heap := hP
  obtain ⟨H, eH⟩ : ∃ z, z = s.heap := ⟨_, rfl⟩
  rw [← eH] at hP
  have hS : va_S A s.heap H [] := by rw [eH]; exact hS
  rw [← eH]
  generalize ([] : List Loc) = locs at hS ⊢
  have hl := lv_entry ([.ref aO, .int iop]) (n := 3) (Nat.le_of_ble_eq_true rfl)
  rw [lg_entry_eq]
  generalize (lg_sl ([.ref aO, .int iop]) ++ List.replicate (3 - (lg_sl ([.ref aO, .int iop])).length) Slot.unset).toArray = ls at hl ⊢
  have hl : lv_has ls 3 [(0, .ref aO), (1, .int iop)] := hl
  refine lv_iload_n hx hb d_O_answerOfInfinite_0 rfl (lv_at hl 1 rfl) ?_
  have hPc := hP.sub (ws' := []) [] rfl
  have hDc := hD.sub (ws' := []) [] (by decide) rfl
  have hKc := hK.sub (tys' := []) [] rfl
  have hFc := va_free (wc := []) hD hS hA [] rfl
  refine cc_i (va_runS (As := [.int iop]) (rest := []) ⟨hx, hb, hml, hown, htA⟩ (c_O_isQuotient l dC dI H.size iop) (va_cwS 1 htA (gi_S k_131 k_132 k_90 (gi_code k_94)) rfl rfl rfl (by decide +kernel) ⟨Nat.le_of_ble_eq_true rfl, Nat.le_of_ble_eq_true rfl⟩) (pre_S hnw hPc hKc hDc) rfl rfl hl.1 rfl (lv_room (Nat.le_of_ble_eq_true rfl)) d_O_answerOfInfinite_1 ⟨Nat.le_of_ble_eq_true rfl, Nat.le_of_ble_eq_true rfl⟩) hS hFc hP hD [] [0, 1, 2, 3] (wr := [(aO, .inr (0, [.ref aT, .ref aF, .int cw, .int ts, .ref a1, .ref a2, .ref a3, .ref a4, .ref a5])), (a1, .inr (1, [.int (b2i n1), .int p1, .long f1])), (a2, .inr (1, [.int (b2i n2), .int p2, .long f2])), (a3, .inr (1, [.int (b2i n3), .int p3, .long f3]))]) rfl rfl (by decide) (by decide) (fun H locs hP hD hS => ?_)
  have hP : va_P (dC, dI) classes [(aO, .inr (0, [.ref aT, .ref aF, .int cw, .int ts, .ref a1, .ref a2, .ref a3, .ref a4, .ref a5])), (a1, .inr (1, [.int (b2i n1), .int p1, .long f1])), (a2, .inr (1, [.int (b2i n2), .int p2, .long f2])), (a3, .inr (1, [.int (b2i n3), .int p3, .long f3]))] H := hP
  have hD : va_D A [(aO, .inr (0, [.ref aT, .ref aF, .int cw, .int ts, .ref a1, .ref a2, .ref a3, .ref a4, .ref a5])), (a1, .inr (1, [.int (b2i n1), .int p1, .long f1])), (a2, .inr (1, [.int (b2i n2), .int p2, .long f2])), (a3, .inr (1, [.int (b2i n3), .int p3, .long f3]))] := hD
  refine lv_if_eq (tgt := 31) hx hb d_O_answerOfInfinite_4 (by decide) (fun c_4 => ?_) (fun c_4 => ?_)
  · skip
    have c_4 : ¬ (g_O_isQuotient iop) = true := b2i_z c_4
    refine lv_aload_n hx hb d_O_answerOfInfinite_31 rfl (lv_at hl 0 rfl) ?_
    have hPc := hP.sub (ws' := [(aO, .inr (0, [.ref aT, .ref aF, .int cw, .int ts, .ref a1, .ref a2, .ref a3, .ref a4, .ref a5])), (a1, .inr (1, [.int (b2i n1), .int p1, .long f1])), (a2, .inr (1, [.int (b2i n2), .int p2, .long f2]))]) [0, 1, 2] rfl
    have hDc := hD.sub (ws' := [(aO, .inr (0, [.ref aT, .ref aF, .int cw, .int ts, .ref a1, .ref a2, .ref a3, .ref a4, .ref a5])), (a1, .inr (1, [.int (b2i n1), .int p1, .long f1])), (a2, .inr (1, [.int (b2i n2), .int p2, .long f2]))]) [0, 1, 2] (by decide) rfl
    have hKc := hK.sub (tys' := []) [] rfl
    have hFc := va_free (wc := [(aO, .inr (0, [.ref aT, .ref aF, .int cw, .int ts, .ref a1, .ref a2, .ref a3, .ref a4, .ref a5])), (a1, .inr (1, [.int (b2i n1), .int p1, .long f1])), (a2, .inr (1, [.int (b2i n2), .int p2, .long f2]))]) hD hS hA [0, 1, 2] rfl
    refine cc_i (va_runV (As := []) (rest := []) ⟨hx, hb, hml, hown, htA⟩ (c_O_hasOppositeSigns l dC dI aO a1 a2 aT aF a3 a4 a5 H.size cw ts n1 p1 f1 n2 p2 f2) (cwV 0 htA (gi_V k_119 k_120 k_121 k_90 (gi_code k_106)) rfl rfl rfl (by decide +kernel) ⟨Nat.le_of_ble_eq_true rfl, Nat.le_of_ble_eq_true rfl⟩) (pre_V hnw hPc hKc hDc (ci := 0) (q0 := 0) rfl rfl) rfl rfl hl.1 rfl (lv_room (Nat.le_of_ble_eq_true rfl)) d_O_answerOfInfinite_32 ⟨Nat.le_of_ble_eq_true rfl, Nat.le_of_ble_eq_true rfl⟩) hS hFc hP hD [0, 1, 2] [3] (wr := [(a3, .inr (1, [.int (b2i n3), .int p3, .long f3]))]) rfl rfl (by decide) (by decide) (fun H locs hP hD hS => ?_)
    have hP : va_P (dC, dI) classes [(a3, .inr (1, [.int (b2i n3), .int p3, .long f3])), (aO, .inr (0, [.ref aT, .ref aF, .int cw, .int ts, .ref a1, .ref a2, .ref a3, .ref a4, .ref a5])), (a1, .inr (1, [.int (b2i n1), .int p1, .long f1])), (a2, .inr (1, [.int (b2i n2), .int p2, .long f2]))] H := hP
    have hD : va_D A [(a3, .inr (1, [.int (b2i n3), .int p3, .long f3])), (aO, .inr (0, [.ref aT, .ref aF, .int cw, .int ts, .ref a1, .ref a2, .ref a3, .ref a4, .ref a5])), (a1, .inr (1, [.int (b2i n1), .int p1, .long f1])), (a2, .inr (1, [.int (b2i n2), .int p2, .long f2]))] := hD
    refine lv_istore_n (lv' := [(2, .int (b2i (g_O_hasOppositeSigns n1 n2))), (0, .ref aO), (1, .int iop)]) hx hb d_O_answerOfInfinite_35 rfl hl (by decide) rfl (fun ls hl => ?_)
    refine lv_iload_n hx hb d_O_answerOfInfinite_36 rfl (lv_at hl 2 rfl) ?_
    have hPc := hP.sub (ws' := []) [] rfl
    have hDc := hD.sub (ws' := []) [] (by decide) rfl
    have hKc := hK.sub (tys' := []) [] rfl
    have hFc := va_free (wc := []) hD hS hA [] rfl
    refine cc_i (va_runS (As := [.int iop]) (rest := []) ⟨hx, hb, hml, hown, htA⟩ (c_O_isSum l dC dI H.size iop) (va_cwS 1 htA (gi_S k_117 k_118 k_90 (gi_code k_93)) rfl rfl rfl (by decide +kernel) ⟨Nat.le_of_ble_eq_true rfl, Nat.le_of_ble_eq_true rfl⟩) (pre_S hnw hPc hKc hDc) rfl rfl hl.1 rfl (lv_room (Nat.le_of_ble_eq_true rfl)) d_O_answerOfInfinite_37 ⟨Nat.le_of_ble_eq_true rfl, Nat.le_of_ble_eq_true rfl⟩) hS hFc hP hD [] [0, 1, 2, 3] (wr := [(a3, .inr (1, [.int (b2i n3), .int p3, .long f3])), (aO, .inr (0, [.ref aT, .ref aF, .int cw, .int ts, .ref a1, .ref a2, .ref a3, .ref a4, .ref a5])), (a1, .inr (1, [.int (b2i n1), .int p1, .long f1])), (a2, .inr (1, [.int (b2i n2), .int p2, .long f2]))]) rfl rfl (by decide) (by decide) (fun H locs hP hD hS => ?_)
    have hP : va_P (dC, dI) classes [(a3, .inr (1, [.int (b2i n3), .int p3, .long f3])), (aO, .inr (0, [.ref aT, .ref aF, .int cw, .int ts, .ref a1, .ref a2, .ref a3, .ref a4, .ref a5])), (a1, .inr (1, [.int (b2i n1), .int p1, .long f1])), (a2, .inr (1, [.int (b2i n2), .int p2, .long f2]))] H := hP
    have hD : va_D A [(a3, .inr (1, [.int (b2i n3), .int p3, .long f3])), (aO, .inr (0, [.ref aT, .ref aF, .int cw, .int ts, .ref a1, .ref a2, .ref a3, .ref a4, .ref a5])), (a1, .inr (1, [.int (b2i n1), .int p1, .long f1])), (a2, .inr (1, [.int (b2i n2), .int p2, .long f2]))] := hD
    refine lv_if_eq (tgt := 71) hx hb d_O_answerOfInfinite_40 (by decide) (fun c_40 => ?_) (fun c_40 => ?_)
    · skip
      have c_40 : ¬ (g_O_isSum iop) = true := b2i_z c_40
      refine lv_aload_n hx hb d_O_answerOfInfinite_71 rfl (lv_at hl 1 rfl) ?_
      refine va_get (D := (dC, dI)) (ci := 0) (v := .ref a3) (C := R_O) (T := F_O) (N := 9) hx hb htA in_O hown hK hP 1 rfl rfl 6 (by decide) (htA _ k_128) (fun _ h9 => h9) rfl d_O_answerOfInfinite_72 ?_
      refine lv_iload_n hx hb d_O_answerOfInfinite_75 rfl (lv_at hl 0 rfl) ?_
      refine lv_sipush (v := 32767) hx hb d_O_answerOfInfinite_76 (by decide) ?_
      refine lv_ldc2 (v := (-9223372036854775808)) hx hb hown (htA _ k_133) d_O_answerOfInfinite_79 ?_
      have hPc := hP.sub (ws' := [(a3, .inr (1, [.int (b2i n3), .int p3, .long f3]))]) [0] rfl
      have hDc := hD.sub (ws' := [(a3, .inr (1, [.int (b2i n3), .int p3, .long f3]))]) [0] (by decide) rfl
      have hKc := hK.sub (tys' := []) [] rfl
      have hFc := va_free (wc := [(a3, .inr (1, [.int (b2i n3), .int p3, .long f3]))]) hD hS hA [0] rfl
      refine cc_v (va_runVN (As := [.int (b2i (g_O_hasOppositeSigns n1 n2)), .int 32767, .long (-9223372036854775808)]) (rest := []) ⟨hx, hb, hml, hown, htA⟩ (c_R_put l dC dI a3 H.size n3 p3 f3 (g_O_hasOppositeSigns n1 n2) 32767 (-9223372036854775808)) ⟨va_cnB 3 htA (gi_code k_18) rfl rfl rfl (hnw _ n_12) (htA _ k_20) (by decide +kernel) ⟨Nat.le_of_ble_eq_true rfl, Nat.le_of_ble_eq_true rfl⟩, htA _ k_22, htA _ k_23⟩ (pre_V hnw hPc hKc hDc (ci := 1) (q0 := 0) rfl rfl) rfl rfl hl.1 rfl (lv_room (Nat.le_of_ble_eq_true rfl)) d_O_answerOfInfinite_82 ⟨Nat.le_of_ble_eq_true rfl, Nat.le_of_ble_eq_true rfl⟩) hS hFc hP hD [0] [1, 2, 3] (wr := [(aO, .inr (0, [.ref aT, .ref aF, .int cw, .int ts, .ref a1, .ref a2, .ref a3, .ref a4, .ref a5])), (a1, .inr (1, [.int (b2i n1), .int p1, .long f1])), (a2, .inr (1, [.int (b2i n2), .int p2, .long f2]))]) rfl rfl (by decide) (by decide) (fun H locs hP hD hS => ?_)
      have hP : va_P (dC, dI) classes [(aO, .inr (0, [.ref aT, .ref aF, .int cw, .int ts, .ref a1, .ref a2, .ref a3, .ref a4, .ref a5])), (a1, .inr (1, [.int (b2i n1), .int p1, .long f1])), (a2, .inr (1, [.int (b2i n2), .int p2, .long f2])), (a3, .inr (1, [.int (b2i (g_O_hasOppositeSigns n1 n2)), .int 32767, .long (-9223372036854775808)]))] H := hP
      have hD : va_D A [(aO, .inr (0, [.ref aT, .ref aF, .int cw, .int ts, .ref a1, .ref a2, .ref a3, .ref a4, .ref a5])), (a1, .inr (1, [.int (b2i n1), .int p1, .long f1])), (a2, .inr (1, [.int (b2i n2), .int p2, .long f2])), (a3, .inr (1, [.int (b2i (g_O_hasOppositeSigns n1 n2)), .int 32767, .long (-9223372036854775808)]))] := hD
      have hE : g_O_answerOfInfinite n1 p1 f1 n2 p2 f2 iop = ((g_O_hasOppositeSigns n1 n2), 32767, (-9223372036854775808)) := by clear hP hD hl hS; unfold g_O_answerOfInfinite; (try dsimp only); rw [if_neg c_4, if_neg c_40]
      have hP9 : va_P (dC, dI) classes [(aO, .inr (0, [.ref aT, .ref aF, .int cw, .int ts, .ref a1, .ref a2, .ref a3, .ref a4, .ref a5])), (a1, .inr (1, [.int (b2i n1), .int p1, .long f1])), (a2, .inr (1, [.int (b2i n2), .int p2, .long f2])), (a3, .inr (1, [.int (b2i ((g_O_answerOfInfinite n1 p1 f1 n2 p2 f2 iop).1)), .int ((g_O_answerOfInfinite n1 p1 f1 n2 p2 f2 iop).2.1), .long ((g_O_answerOfInfinite n1 p1 f1 n2 p2 f2 iop).2.2)]))] H := by rw [hE]; exact hP.sub [0, 1, 2, 3] rfl
      have hD9 : va_D A [(aO, .inr (0, [.ref aT, .ref aF, .int cw, .int ts, .ref a1, .ref a2, .ref a3, .ref a4, .ref a5])), (a1, .inr (1, [.int (b2i n1), .int p1, .long f1])), (a2, .inr (1, [.int (b2i n2), .int p2, .long f2])), (a3, .inr (1, [.int (b2i ((g_O_answerOfInfinite n1 p1 f1 n2 p2 f2 iop).1)), .int ((g_O_answerOfInfinite n1 p1 f1 n2 p2 f2 iop).2.1), .long ((g_O_answerOfInfinite n1 p1 f1 n2 p2 f2 iop).2.2)]))] := by rw [hE]; exact hD.sub [0, 1, 2, 3] (by decide) rfl
      exact W.vret hx hb hr (fun t ht hW => ⟨⟨(), rfl, trivial, by rw [ht]; exact hP9, hD9⟩, hS.F ht⟩) hS.2.2 d_O_answerOfInfinite_85
    · skip
      have c_40 : (g_O_isSum iop) = true := b2i_nz c_40
      refine lv_aload_n hx hb d_O_answerOfInfinite_43 rfl (lv_at hl 1 rfl) ?_
      refine va_get (D := (dC, dI)) (ci := 0) (v := .ref a1) (C := R_O) (T := F_O) (N := 9) hx hb htA in_O hown hK hP 1 rfl rfl 4 (by decide) (htA _ k_104) (fun _ h9 => h9) rfl d_O_answerOfInfinite_44 ?_
      have hPc := hP.sub (ws' := [(a1, .inr (1, [.int (b2i n1), .int p1, .long f1]))]) [2] rfl
      have hDc := hD.sub (ws' := [(a1, .inr (1, [.int (b2i n1), .int p1, .long f1]))]) [2] (by decide) rfl
      have hKc := hK.sub (tys' := []) [] rfl
      have hFc := va_free (wc := [(a1, .inr (1, [.int (b2i n1), .int p1, .long f1]))]) hD hS hA [2] rfl
      refine cc_i (va_runVN (As := []) (rest := []) ⟨hx, hb, hml, hown, htA⟩ (c_R_isInfinite l dC dI a1 H.size n1 p1 f1) ⟨va_cnB 0 htA (gi_code k_28) rfl rfl rfl (hnw _ n_7) (htA _ k_20) (by decide +kernel) ⟨Nat.le_of_ble_eq_true rfl, Nat.le_of_ble_eq_true rfl⟩, htA _ k_109, htA _ k_110⟩ (pre_V hnw hPc hKc hDc (ci := 1) (q0 := 0) rfl rfl) rfl rfl hl.1 rfl (lv_room (Nat.le_of_ble_eq_true rfl)) d_O_answerOfInfinite_47 ⟨Nat.le_of_ble_eq_true rfl, Nat.le_of_ble_eq_true rfl⟩) hS hFc hP hD [2] [0, 1, 3] (wr := [(a3, .inr (1, [.int (b2i n3), .int p3, .long f3])), (aO, .inr (0, [.ref aT, .ref aF, .int cw, .int ts, .ref a1, .ref a2, .ref a3, .ref a4, .ref a5])), (a2, .inr (1, [.int (b2i n2), .int p2, .long f2]))]) rfl rfl (by decide) (by decide) (fun H locs hP hD hS => ?_)
      have hP : va_P (dC, dI) classes [(a3, .inr (1, [.int (b2i n3), .int p3, .long f3])), (aO, .inr (0, [.ref aT, .ref aF, .int cw, .int ts, .ref a1, .ref a2, .ref a3, .ref a4, .ref a5])), (a2, .inr (1, [.int (b2i n2), .int p2, .long f2])), (a1, .inr (1, [.int (b2i n1), .int p1, .long f1]))] H := hP
      have hD : va_D A [(a3, .inr (1, [.int (b2i n3), .int p3, .long f3])), (aO, .inr (0, [.ref aT, .ref aF, .int cw, .int ts, .ref a1, .ref a2, .ref a3, .ref a4, .ref a5])), (a2, .inr (1, [.int (b2i n2), .int p2, .long f2])), (a1, .inr (1, [.int (b2i n1), .int p1, .long f1]))] := hD
      refine lv_if_eq (tgt := 63) hx hb d_O_answerOfInfinite_50 (by decide) (fun c_50 => ?_) (fun c_50 => ?_)
      · skip
        have c_50 : ¬ (g_R_isInfinite p1 f1) = true := b2i_z c_50
        refine lv_aload_n hx hb d_O_answerOfInfinite_63 rfl (lv_at hl 1 rfl) ?_
        refine va_get (D := (dC, dI)) (ci := 0) (v := .ref a2) (C := R_O) (T := F_O) (N := 9) hx hb htA in_O hown hK hP 1 rfl rfl 5 (by decide) (htA _ k_105) (fun _ h9 => h9) rfl d_O_answerOfInfinite_64 ?_
        refine va_getN (D := (dC, dI)) (ci := 1) (v := .int (b2i n2)) (C := R_R) (T := F_R) (N := 3) hx hb htA in_R hown hK hP 2 rfl rfl 0 (by decide) (va_Nw.use rfl (hnw _ n_5)) (fun _ h9 => h9) rfl d_O_answerOfInfinite_67 ?_
        refine lv_istore_n (lv' := [(2, .int (b2i n2)), (0, .ref aO), (1, .int iop)]) hx hb d_O_answerOfInfinite_70 rfl hl (by decide) rfl (fun ls hl => ?_)
        refine lv_aload_n hx hb d_O_answerOfInfinite_71 rfl (lv_at hl 1 rfl) ?_
        refine va_get (D := (dC, dI)) (ci := 0) (v := .ref a3) (C := R_O) (T := F_O) (N := 9) hx hb htA in_O hown hK hP 1 rfl rfl 6 (by decide) (htA _ k_128) (fun _ h9 => h9) rfl d_O_answerOfInfinite_72 ?_
        refine lv_iload_n hx hb d_O_answerOfInfinite_75 rfl (lv_at hl 0 rfl) ?_
        refine lv_sipush (v := 32767) hx hb d_O_answerOfInfinite_76 (by decide) ?_
        refine lv_ldc2 (v := (-9223372036854775808)) hx hb hown (htA _ k_133) d_O_answerOfInfinite_79 ?_
        have hPc := hP.sub (ws' := [(a3, .inr (1, [.int (b2i n3), .int p3, .long f3]))]) [0] rfl
        have hDc := hD.sub (ws' := [(a3, .inr (1, [.int (b2i n3), .int p3, .long f3]))]) [0] (by decide) rfl
        have hKc := hK.sub (tys' := []) [] rfl
        have hFc := va_free (wc := [(a3, .inr (1, [.int (b2i n3), .int p3, .long f3]))]) hD hS hA [0] rfl
        refine cc_v (va_runVN (As := [.int (b2i n2), .int 32767, .long (-9223372036854775808)]) (rest := []) ⟨hx, hb, hml, hown, htA⟩ (c_R_put l dC dI a3 H.size n3 p3 f3 n2 32767 (-9223372036854775808)) ⟨va_cnB 3 htA (gi_code k_18) rfl rfl rfl (hnw _ n_12) (htA _ k_20) (by decide +kernel) ⟨Nat.le_of_ble_eq_true rfl, Nat.le_of_ble_eq_true rfl⟩, htA _ k_22, htA _ k_23⟩ (pre_V hnw hPc hKc hDc (ci := 1) (q0 := 0) rfl rfl) rfl rfl hl.1 rfl (lv_room (Nat.le_of_ble_eq_true rfl)) d_O_answerOfInfinite_82 ⟨Nat.le_of_ble_eq_true rfl, Nat.le_of_ble_eq_true rfl⟩) hS hFc hP hD [0] [1, 2, 3] (wr := [(aO, .inr (0, [.ref aT, .ref aF, .int cw, .int ts, .ref a1, .ref a2, .ref a3, .ref a4, .ref a5])), (a2, .inr (1, [.int (b2i n2), .int p2, .long f2])), (a1, .inr (1, [.int (b2i n1), .int p1, .long f1]))]) rfl rfl (by decide) (by decide) (fun H locs hP hD hS => ?_)
        have hP : va_P (dC, dI) classes [(aO, .inr (0, [.ref aT, .ref aF, .int cw, .int ts, .ref a1, .ref a2, .ref a3, .ref a4, .ref a5])), (a2, .inr (1, [.int (b2i n2), .int p2, .long f2])), (a1, .inr (1, [.int (b2i n1), .int p1, .long f1])), (a3, .inr (1, [.int (b2i n2), .int 32767, .long (-9223372036854775808)]))] H := hP
        have hD : va_D A [(aO, .inr (0, [.ref aT, .ref aF, .int cw, .int ts, .ref a1, .ref a2, .ref a3, .ref a4, .ref a5])), (a2, .inr (1, [.int (b2i n2), .int p2, .long f2])), (a1, .inr (1, [.int (b2i n1), .int p1, .long f1])), (a3, .inr (1, [.int (b2i n2), .int 32767, .long (-9223372036854775808)]))] := hD
        have hE : g_O_answerOfInfinite n1 p1 f1 n2 p2 f2 iop = (n2, 32767, (-9223372036854775808)) := by clear hP hD hl hS; unfold g_O_answerOfInfinite; (try dsimp only); rw [if_neg c_4, if_pos c_40, if_neg c_50]
        have hP9 : va_P (dC, dI) classes [(aO, .inr (0, [.ref aT, .ref aF, .int cw, .int ts, .ref a1, .ref a2, .ref a3, .ref a4, .ref a5])), (a1, .inr (1, [.int (b2i n1), .int p1, .long f1])), (a2, .inr (1, [.int (b2i n2), .int p2, .long f2])), (a3, .inr (1, [.int (b2i ((g_O_answerOfInfinite n1 p1 f1 n2 p2 f2 iop).1)), .int ((g_O_answerOfInfinite n1 p1 f1 n2 p2 f2 iop).2.1), .long ((g_O_answerOfInfinite n1 p1 f1 n2 p2 f2 iop).2.2)]))] H := by rw [hE]; exact hP.sub [0, 2, 1, 3] rfl
        have hD9 : va_D A [(aO, .inr (0, [.ref aT, .ref aF, .int cw, .int ts, .ref a1, .ref a2, .ref a3, .ref a4, .ref a5])), (a1, .inr (1, [.int (b2i n1), .int p1, .long f1])), (a2, .inr (1, [.int (b2i n2), .int p2, .long f2])), (a3, .inr (1, [.int (b2i ((g_O_answerOfInfinite n1 p1 f1 n2 p2 f2 iop).1)), .int ((g_O_answerOfInfinite n1 p1 f1 n2 p2 f2 iop).2.1), .long ((g_O_answerOfInfinite n1 p1 f1 n2 p2 f2 iop).2.2)]))] := by rw [hE]; exact hD.sub [0, 2, 1, 3] (by decide) rfl
        exact W.vret hx hb hr (fun t ht hW => ⟨⟨(), rfl, trivial, by rw [ht]; exact hP9, hD9⟩, hS.F ht⟩) hS.2.2 d_O_answerOfInfinite_85
      · skip
        have c_50 : (g_R_isInfinite p1 f1) = true := b2i_nz c_50
        refine lv_aload_n hx hb d_O_answerOfInfinite_53 rfl (lv_at hl 1 rfl) ?_
        refine va_get (D := (dC, dI)) (ci := 0) (v := .ref a1) (C := R_O) (T := F_O) (N := 9) hx hb htA in_O hown hK hP 1 rfl rfl 4 (by decide) (htA _ k_104) (fun _ h9 => h9) rfl d_O_answerOfInfinite_54 ?_
        refine va_getN (D := (dC, dI)) (ci := 1) (v := .int (b2i n1)) (C := R_R) (T := F_R) (N := 3) hx hb htA in_R hown hK hP 3 rfl rfl 0 (by decide) (va_Nw.use rfl (hnw _ n_5)) (fun _ h9 => h9) rfl d_O_answerOfInfinite_57 ?_
        refine lv_goto (tgt := 70) hx hb d_O_answerOfInfinite_60 (by decide) ?_
        refine lv_istore_n (lv' := [(2, .int (b2i n1)), (0, .ref aO), (1, .int iop)]) hx hb d_O_answerOfInfinite_70 rfl hl (by decide) rfl (fun ls hl => ?_)
        refine lv_aload_n hx hb d_O_answerOfInfinite_71 rfl (lv_at hl 1 rfl) ?_
        refine va_get (D := (dC, dI)) (ci := 0) (v := .ref a3) (C := R_O) (T := F_O) (N := 9) hx hb htA in_O hown hK hP 1 rfl rfl 6 (by decide) (htA _ k_128) (fun _ h9 => h9) rfl d_O_answerOfInfinite_72 ?_
        refine lv_iload_n hx hb d_O_answerOfInfinite_75 rfl (lv_at hl 0 rfl) ?_
        refine lv_sipush (v := 32767) hx hb d_O_answerOfInfinite_76 (by decide) ?_
        refine lv_ldc2 (v := (-9223372036854775808)) hx hb hown (htA _ k_133) d_O_answerOfInfinite_79 ?_
        have hPc := hP.sub (ws' := [(a3, .inr (1, [.int (b2i n3), .int p3, .long f3]))]) [0] rfl
        have hDc := hD.sub (ws' := [(a3, .inr (1, [.int (b2i n3), .int p3, .long f3]))]) [0] (by decide) rfl
        have hKc := hK.sub (tys' := []) [] rfl
        have hFc := va_free (wc := [(a3, .inr (1, [.int (b2i n3), .int p3, .long f3]))]) hD hS hA [0] rfl
        refine cc_v (va_runVN (As := [.int (b2i n1), .int 32767, .long (-9223372036854775808)]) (rest := []) ⟨hx, hb, hml, hown, htA⟩ (c_R_put l dC dI a3 H.size n3 p3 f3 n1 32767 (-9223372036854775808)) ⟨va_cnB 3 htA (gi_code k_18) rfl rfl rfl (hnw _ n_12) (htA _ k_20) (by decide +kernel) ⟨Nat.le_of_ble_eq_true rfl, Nat.le_of_ble_eq_true rfl⟩, htA _ k_22, htA _ k_23⟩ (pre_V hnw hPc hKc hDc (ci := 1) (q0 := 0) rfl rfl) rfl rfl hl.1 rfl (lv_room (Nat.le_of_ble_eq_true rfl)) d_O_answerOfInfinite_82 ⟨Nat.le_of_ble_eq_true rfl, Nat.le_of_ble_eq_true rfl⟩) hS hFc hP hD [0] [1, 2, 3] (wr := [(aO, .inr (0, [.ref aT, .ref aF, .int cw, .int ts, .ref a1, .ref a2, .ref a3, .ref a4, .ref a5])), (a2, .inr (1, [.int (b2i n2), .int p2, .long f2])), (a1, .inr (1, [.int (b2i n1), .int p1, .long f1]))]) rfl rfl (by decide) (by decide) (fun H locs hP hD hS => ?_)
        have hP : va_P (dC, dI) classes [(aO, .inr (0, [.ref aT, .ref aF, .int cw, .int ts, .ref a1, .ref a2, .ref a3, .ref a4, .ref a5])), (a2, .inr (1, [.int (b2i n2), .int p2, .long f2])), (a1, .inr (1, [.int (b2i n1), .int p1, .long f1])), (a3, .inr (1, [.int (b2i n1), .int 32767, .long (-9223372036854775808)]))] H := hP
        have hD : va_D A [(aO, .inr (0, [.ref aT, .ref aF, .int cw, .int ts, .ref a1, .ref a2, .ref a3, .ref a4, .ref a5])), (a2, .inr (1, [.int (b2i n2), .int p2, .long f2])), (a1, .inr (1, [.int (b2i n1), .int p1, .long f1])), (a3, .inr (1, [.int (b2i n1), .int 32767, .long (-9223372036854775808)]))] := hD
        have hE : g_O_answerOfInfinite n1 p1 f1 n2 p2 f2 iop = (n1, 32767, (-9223372036854775808)) := by clear hP hD hl hS; unfold g_O_answerOfInfinite; (try dsimp only); rw [if_neg c_4, if_pos c_40, if_pos c_50]
        have hP9 : va_P (dC, dI) classes [(aO, .inr (0, [.ref aT, .ref aF, .int cw, .int ts, .ref a1, .ref a2, .ref a3, .ref a4, .ref a5])), (a1, .inr (1, [.int (b2i n1), .int p1, .long f1])), (a2, .inr (1, [.int (b2i n2), .int p2, .long f2])), (a3, .inr (1, [.int (b2i ((g_O_answerOfInfinite n1 p1 f1 n2 p2 f2 iop).1)), .int ((g_O_answerOfInfinite n1 p1 f1 n2 p2 f2 iop).2.1), .long ((g_O_answerOfInfinite n1 p1 f1 n2 p2 f2 iop).2.2)]))] H := by rw [hE]; exact hP.sub [0, 2, 1, 3] rfl
        have hD9 : va_D A [(aO, .inr (0, [.ref aT, .ref aF, .int cw, .int ts, .ref a1, .ref a2, .ref a3, .ref a4, .ref a5])), (a1, .inr (1, [.int (b2i n1), .int p1, .long f1])), (a2, .inr (1, [.int (b2i n2), .int p2, .long f2])), (a3, .inr (1, [.int (b2i ((g_O_answerOfInfinite n1 p1 f1 n2 p2 f2 iop).1)), .int ((g_O_answerOfInfinite n1 p1 f1 n2 p2 f2 iop).2.1), .long ((g_O_answerOfInfinite n1 p1 f1 n2 p2 f2 iop).2.2)]))] := by rw [hE]; exact hD.sub [0, 2, 1, 3] (by decide) rfl
        exact W.vret hx hb hr (fun t ht hW => ⟨⟨(), rfl, trivial, by rw [ht]; exact hP9, hD9⟩, hS.F ht⟩) hS.2.2 d_O_answerOfInfinite_85
  · skip
    have c_4 : (g_O_isQuotient iop) = true := b2i_nz c_4
    refine lv_aload_n hx hb d_O_answerOfInfinite_7 rfl (lv_at hl 0 rfl) ?_
    refine va_get (D := (dC, dI)) (ci := 0) (v := .ref a2) (C := R_O) (T := F_O) (N := 9) hx hb htA in_O hown hK hP 0 rfl rfl 5 (by decide) (htA _ k_105) (fun _ h9 => h9) rfl d_O_answerOfInfinite_8 ?_
    have hPc := hP.sub (ws' := [(a2, .inr (1, [.int (b2i n2), .int p2, .long f2]))]) [2] rfl
    have hDc := hD.sub (ws' := [(a2, .inr (1, [.int (b2i n2), .int p2, .long f2]))]) [2] (by decide) rfl
    have hKc := hK.sub (tys' := []) [] rfl
    have hFc := va_free (wc := [(a2, .inr (1, [.int (b2i n2), .int p2, .long f2]))]) hD hS hA [2] rfl
    refine cc_i (va_runVN (As := []) (rest := []) ⟨hx, hb, hml, hown, htA⟩ (c_R_isInfinite l dC dI a2 H.size n2 p2 f2) ⟨va_cnB 0 htA (gi_code k_28) rfl rfl rfl (hnw _ n_7) (htA _ k_20) (by decide +kernel) ⟨Nat.le_of_ble_eq_true rfl, Nat.le_of_ble_eq_true rfl⟩, htA _ k_109, htA _ k_110⟩ (pre_V hnw hPc hKc hDc (ci := 1) (q0 := 0) rfl rfl) rfl rfl hl.1 rfl (lv_room (Nat.le_of_ble_eq_true rfl)) d_O_answerOfInfinite_11 ⟨Nat.le_of_ble_eq_true rfl, Nat.le_of_ble_eq_true rfl⟩) hS hFc hP hD [2] [0, 1, 3] (wr := [(aO, .inr (0, [.ref aT, .ref aF, .int cw, .int ts, .ref a1, .ref a2, .ref a3, .ref a4, .ref a5])), (a1, .inr (1, [.int (b2i n1), .int p1, .long f1])), (a3, .inr (1, [.int (b2i n3), .int p3, .long f3]))]) rfl rfl (by decide) (by decide) (fun H locs hP hD hS => ?_)
    have hP : va_P (dC, dI) classes [(aO, .inr (0, [.ref aT, .ref aF, .int cw, .int ts, .ref a1, .ref a2, .ref a3, .ref a4, .ref a5])), (a1, .inr (1, [.int (b2i n1), .int p1, .long f1])), (a3, .inr (1, [.int (b2i n3), .int p3, .long f3])), (a2, .inr (1, [.int (b2i n2), .int p2, .long f2]))] H := hP
    have hD : va_D A [(aO, .inr (0, [.ref aT, .ref aF, .int cw, .int ts, .ref a1, .ref a2, .ref a3, .ref a4, .ref a5])), (a1, .inr (1, [.int (b2i n1), .int p1, .long f1])), (a3, .inr (1, [.int (b2i n3), .int p3, .long f3])), (a2, .inr (1, [.int (b2i n2), .int p2, .long f2]))] := hD
    refine lv_if_eq (tgt := 31) hx hb d_O_answerOfInfinite_14 (by decide) (fun c_14 => ?_) (fun c_14 => ?_)
    · skip
      have c_14 : ¬ (g_R_isInfinite p2 f2) = true := b2i_z c_14
      refine lv_aload_n hx hb d_O_answerOfInfinite_31 rfl (lv_at hl 0 rfl) ?_
      have hPc := hP.sub (ws' := [(aO, .inr (0, [.ref aT, .ref aF, .int cw, .int ts, .ref a1, .ref a2, .ref a3, .ref a4, .ref a5])), (a1, .inr (1, [.int (b2i n1), .int p1, .long f1])), (a2, .inr (1, [.int (b2i n2), .int p2, .long f2]))]) [0, 1, 3] rfl
      have hDc := hD.sub (ws' := [(aO, .inr (0, [.ref aT, .ref aF, .int cw, .int ts, .ref a1, .ref a2, .ref a3, .ref a4, .ref a5])), (a1, .inr (1, [.int (b2i n1), .int p1, .long f1])), (a2, .inr (1, [.int (b2i n2), .int p2, .long f2]))]) [0, 1, 3] (by decide) rfl
      have hKc := hK.sub (tys' := []) [] rfl
      have hFc := va_free (wc := [(aO, .inr (0, [.ref aT, .ref aF, .int cw, .int ts, .ref a1, .ref a2, .ref a3, .ref a4, .ref a5])), (a1, .inr (1, [.int (b2i n1), .int p1, .long f1])), (a2, .inr (1, [.int (b2i n2), .int p2, .long f2]))]) hD hS hA [0, 1, 3] rfl
      refine cc_i (va_runV (As := []) (rest := []) ⟨hx, hb, hml, hown, htA⟩ (c_O_hasOppositeSigns l dC dI aO a1 a2 aT aF a3 a4 a5 H.size cw ts n1 p1 f1 n2 p2 f2) (cwV 0 htA (gi_V k_119 k_120 k_121 k_90 (gi_code k_106)) rfl rfl rfl (by decide +kernel) ⟨Nat.le_of_ble_eq_true rfl, Nat.le_of_ble_eq_true rfl⟩) (pre_V hnw hPc hKc hDc (ci := 0) (q0 := 0) rfl rfl) rfl rfl hl.1 rfl (lv_room (Nat.le_of_ble_eq_true rfl)) d_O_answerOfInfinite_32 ⟨Nat.le_of_ble_eq_true rfl, Nat.le_of_ble_eq_true rfl⟩) hS hFc hP hD [0, 1, 3] [2] (wr := [(a3, .inr (1, [.int (b2i n3), .int p3, .long f3]))]) rfl rfl (by decide) (by decide) (fun H locs hP hD hS => ?_)
      have hP : va_P (dC, dI) classes [(a3, .inr (1, [.int (b2i n3), .int p3, .long f3])), (aO, .inr (0, [.ref aT, .ref aF, .int cw, .int ts, .ref a1, .ref a2, .ref a3, .ref a4, .ref a5])), (a1, .inr (1, [.int (b2i n1), .int p1, .long f1])), (a2, .inr (1, [.int (b2i n2), .int p2, .long f2]))] H := hP
      have hD : va_D A [(a3, .inr (1, [.int (b2i n3), .int p3, .long f3])), (aO, .inr (0, [.ref aT, .ref aF, .int cw, .int ts, .ref a1, .ref a2, .ref a3, .ref a4, .ref a5])), (a1, .inr (1, [.int (b2i n1), .int p1, .long f1])), (a2, .inr (1, [.int (b2i n2), .int p2, .long f2]))] := hD
      refine lv_istore_n (lv' := [(2, .int (b2i (g_O_hasOppositeSigns n1 n2))), (0, .ref aO), (1, .int iop)]) hx hb d_O_answerOfInfinite_35 rfl hl (by decide) rfl (fun ls hl => ?_)
      refine lv_iload_n hx hb d_O_answerOfInfinite_36 rfl (lv_at hl 2 rfl) ?_
      have hPc := hP.sub (ws' := []) [] rfl
      have hDc := hD.sub (ws' := []) [] (by decide) rfl
      have hKc := hK.sub (tys' := []) [] rfl
      have hFc := va_free (wc := []) hD hS hA [] rfl
      refine cc_i (va_runS (As := [.int iop]) (rest := []) ⟨hx, hb, hml, hown, htA⟩ (c_O_isSum l dC dI H.size iop) (va_cwS 1 htA (gi_S k_117 k_118 k_90 (gi_code k_93)) rfl rfl rfl (by decide +kernel) ⟨Nat.le_of_ble_eq_true rfl, Nat.le_of_ble_eq_true rfl⟩) (pre_S hnw hPc hKc hDc) rfl rfl hl.1 rfl (lv_room (Nat.le_of_ble_eq_true rfl)) d_O_answerOfInfinite_37 ⟨Nat.le_of_ble_eq_true rfl, Nat.le_of_ble_eq_true rfl⟩) hS hFc hP hD [] [0, 1, 2, 3] (wr := [(a3, .inr (1, [.int (b2i n3), .int p3, .long f3])), (aO, .inr (0, [.ref aT, .ref aF, .int cw, .int ts, .ref a1, .ref a2, .ref a3, .ref a4, .ref a5])), (a1, .inr (1, [.int (b2i n1), .int p1, .long f1])), (a2, .inr (1, [.int (b2i n2), .int p2, .long f2]))]) rfl rfl (by decide) (by decide) (fun H locs hP hD hS => ?_)
      have hP : va_P (dC, dI) classes [(a3, .inr (1, [.int (b2i n3), .int p3, .long f3])), (aO, .inr (0, [.ref aT, .ref aF, .int cw, .int ts, .ref a1, .ref a2, .ref a3, .ref a4, .ref a5])), (a1, .inr (1, [.int (b2i n1), .int p1, .long f1])), (a2, .inr (1, [.int (b2i n2), .int p2, .long f2]))] H := hP
      have hD : va_D A [(a3, .inr (1, [.int (b2i n3), .int p3, .long f3])), (aO, .inr (0, [.ref aT, .ref aF, .int cw, .int ts, .ref a1, .ref a2, .ref a3, .ref a4, .ref a5])), (a1, .inr (1, [.int (b2i n1), .int p1, .long f1])), (a2, .inr (1, [.int (b2i n2), .int p2, .long f2]))] := hD
      refine lv_if_eq (tgt := 71) hx hb d_O_answerOfInfinite_40 (by decide) (fun c_40 => ?_) (fun c_40 => ?_)
      · skip
        have c_40 : ¬ (g_O_isSum iop) = true := b2i_z c_40
        refine lv_aload_n hx hb d_O_answerOfInfinite_71 rfl (lv_at hl 1 rfl) ?_
        refine va_get (D := (dC, dI)) (ci := 0) (v := .ref a3) (C := R_O) (T := F_O) (N := 9) hx hb htA in_O hown hK hP 1 rfl rfl 6 (by decide) (htA _ k_128) (fun _ h9 => h9) rfl d_O_answerOfInfinite_72 ?_
        refine lv_iload_n hx hb d_O_answerOfInfinite_75 rfl (lv_at hl 0 rfl) ?_
        refine lv_sipush (v := 32767) hx hb d_O_answerOfInfinite_76 (by decide) ?_
        refine lv_ldc2 (v := (-9223372036854775808)) hx hb hown (htA _ k_133) d_O_answerOfInfinite_79 ?_
        have hPc := hP.sub (ws' := [(a3, .inr (1, [.int (b2i n3), .int p3, .long f3]))]) [0] rfl
        have hDc := hD.sub (ws' := [(a3, .inr (1, [.int (b2i n3), .int p3, .long f3]))]) [0] (by decide) rfl
        have hKc := hK.sub (tys' := []) [] rfl
        have hFc := va_free (wc := [(a3, .inr (1, [.int (b2i n3), .int p3, .long f3]))]) hD hS hA [0] rfl
        refine cc_v (va_runVN (As := [.int (b2i (g_O_hasOppositeSigns n1 n2)), .int 32767, .long (-9223372036854775808)]) (rest := []) ⟨hx, hb, hml, hown, htA⟩ (c_R_put l dC dI a3 H.size n3 p3 f3 (g_O_hasOppositeSigns n1 n2) 32767 (-9223372036854775808)) ⟨va_cnB 3 htA (gi_code k_18) rfl rfl rfl (hnw _ n_12) (htA _ k_20) (by decide +kernel) ⟨Nat.le_of_ble_eq_true rfl, Nat.le_of_ble_eq_true rfl⟩, htA _ k_22, htA _ k_23⟩ (pre_V hnw hPc hKc hDc (ci := 1) (q0 := 0) rfl rfl) rfl rfl hl.1 rfl (lv_room (Nat.le_of_ble_eq_true rfl)) d_O_answerOfInfinite_82 ⟨Nat.le_of_ble_eq_true rfl, Nat.le_of_ble_eq_true rfl⟩) hS hFc hP hD [0] [1, 2, 3] (wr := [(aO, .inr (0, [.ref aT, .ref aF, .int cw, .int ts, .ref a1, .ref a2, .ref a3, .ref a4, .ref a5])), (a1, .inr (1, [.int (b2i n1), .int p1, .long f1])), (a2, .inr (1, [.int (b2i n2), .int p2, .long f2]))]) rfl rfl (by decide) (by decide) (fun H locs hP hD hS => ?_)
        have hP : va_P (dC, dI) classes [(aO, .inr (0, [.ref aT, .ref aF, .int cw, .int ts, .ref a1, .ref a2, .ref a3, .ref a4, .ref a5])), (a1, .inr (1, [.int (b2i n1), .int p1, .long f1])), (a2, .inr (1, [.int (b2i n2), .int p2, .long f2])), (a3, .inr (1, [.int (b2i (g_O_hasOppositeSigns n1 n2)), .int 32767, .long (-9223372036854775808)]))] H := hP
        have hD : va_D A [(aO, .inr (0, [.ref aT, .ref aF, .int cw, .int ts, .ref a1, .ref a2, .ref a3, .ref a4, .ref a5])), (a1, .inr (1, [.int (b2i n1), .int p1, .long f1])), (a2, .inr (1, [.int (b2i n2), .int p2, .long f2])), (a3, .inr (1, [.int (b2i (g_O_hasOppositeSigns n1 n2)), .int 32767, .long (-9223372036854775808)]))] := hD
        have hE : g_O_answerOfInfinite n1 p1 f1 n2 p2 f2 iop = ((g_O_hasOppositeSigns n1 n2), 32767, (-9223372036854775808)) := by clear hP hD hl hS; unfold g_O_answerOfInfinite; (try dsimp only); rw [if_pos c_4, if_neg c_14, if_neg c_40]
        have hP9 : va_P (dC, dI) classes [(aO, .inr (0, [.ref aT, .ref aF, .int cw, .int ts, .ref a1, .ref a2, .ref a3, .ref a4, .ref a5])), (a1, .inr (1, [.int (b2i n1), .int p1, .long f1])), (a2, .inr (1, [.int (b2i n2), .int p2, .long f2])), (a3, .inr (1, [.int (b2i ((g_O_answerOfInfinite n1 p1 f1 n2 p2 f2 iop).1)), .int ((g_O_answerOfInfinite n1 p1 f1 n2 p2 f2 iop).2.1), .long ((g_O_answerOfInfinite n1 p1 f1 n2 p2 f2 iop).2.2)]))] H := by rw [hE]; exact hP.sub [0, 1, 2, 3] rfl
        have hD9 : va_D A [(aO, .inr (0, [.ref aT, .ref aF, .int cw, .int ts, .ref a1, .ref a2, .ref a3, .ref a4, .ref a5])), (a1, .inr (1, [.int (b2i n1), .int p1, .long f1])), (a2, .inr (1, [.int (b2i n2), .int p2, .long f2])), (a3, .inr (1, [.int (b2i ((g_O_answerOfInfinite n1 p1 f1 n2 p2 f2 iop).1)), .int ((g_O_answerOfInfinite n1 p1 f1 n2 p2 f2 iop).2.1), .long ((g_O_answerOfInfinite n1 p1 f1 n2 p2 f2 iop).2.2)]))] := by rw [hE]; exact hD.sub [0, 1, 2, 3] (by decide) rfl
        exact W.vret hx hb hr (fun t ht hW => ⟨⟨(), rfl, trivial, by rw [ht]; exact hP9, hD9⟩, hS.F ht⟩) hS.2.2 d_O_answerOfInfinite_85
      · skip
        have c_40 : (g_O_isSum iop) = true := b2i_nz c_40
        refine lv_aload_n hx hb d_O_answerOfInfinite_43 rfl (lv_at hl 1 rfl) ?_
        refine va_get (D := (dC, dI)) (ci := 0) (v := .ref a1) (C := R_O) (T := F_O) (N := 9) hx hb htA in_O hown hK hP 1 rfl rfl 4 (by decide) (htA _ k_104) (fun _ h9 => h9) rfl d_O_answerOfInfinite_44 ?_
        have hPc := hP.sub (ws' := [(a1, .inr (1, [.int (b2i n1), .int p1, .long f1]))]) [2] rfl
        have hDc := hD.sub (ws' := [(a1, .inr (1, [.int (b2i n1), .int p1, .long f1]))]) [2] (by decide) rfl
        have hKc := hK.sub (tys' := []) [] rfl
        have hFc := va_free (wc := [(a1, .inr (1, [.int (b2i n1), .int p1, .long f1]))]) hD hS hA [2] rfl
        refine cc_i (va_runVN (As := []) (rest := []) ⟨hx, hb, hml, hown, htA⟩ (c_R_isInfinite l dC dI a1 H.size n1 p1 f1) ⟨va_cnB 0 htA (gi_code k_28) rfl rfl rfl (hnw _ n_7) (htA _ k_20) (by decide +kernel) ⟨Nat.le_of_ble_eq_true rfl, Nat.le_of_ble_eq_true rfl⟩, htA _ k_109, htA _ k_110⟩ (pre_V hnw hPc hKc hDc (ci := 1) (q0 := 0) rfl rfl) rfl rfl hl.1 rfl (lv_room (Nat.le_of_ble_eq_true rfl)) d_O_answerOfInfinite_47 ⟨Nat.le_of_ble_eq_true rfl, Nat.le_of_ble_eq_true rfl⟩) hS hFc hP hD [2] [0, 1, 3] (wr := [(a3, .inr (1, [.int (b2i n3), .int p3, .long f3])), (aO, .inr (0, [.ref aT, .ref aF, .int cw, .int ts, .ref a1, .ref a2, .ref a3, .ref a4, .ref a5])), (a2, .inr (1, [.int (b2i n2), .int p2, .long f2]))]) rfl rfl (by decide) (by decide) (fun H locs hP hD hS => ?_)
        have hP : va_P (dC, dI) classes [(a3, .inr (1, [.int (b2i n3), .int p3, .long f3])), (aO, .inr (0, [.ref aT, .ref aF, .int cw, .int ts, .ref a1, .ref a2, .ref a3, .ref a4, .ref a5])), (a2, .inr (1, [.int (b2i n2), .int p2, .long f2])), (a1, .inr (1, [.int (b2i n1), .int p1, .long f1]))] H := hP
        have hD : va_D A [(a3, .inr (1, [.int (b2i n3), .int p3, .long f3])), (aO, .inr (0, [.ref aT, .ref aF, .int cw, .int ts, .ref a1, .ref a2, .ref a3, .ref a4, .ref a5])), (a2, .inr (1, [.int (b2i n2), .int p2, .long f2])), (a1, .inr (1, [.int (b2i n1), .int p1, .long f1]))] := hD
        refine lv_if_eq (tgt := 63) hx hb d_O_answerOfInfinite_50 (by decide) (fun c_50 => ?_) (fun c_50 => ?_)
        · skip
          have c_50 : ¬ (g_R_isInfinite p1 f1) = true := b2i_z c_50
          refine lv_aload_n hx hb d_O_answerOfInfinite_63 rfl (lv_at hl 1 rfl) ?_
          refine va_get (D := (dC, dI)) (ci := 0) (v := .ref a2) (C := R_O) (T := F_O) (N := 9) hx hb htA in_O hown hK hP 1 rfl rfl 5 (by decide) (htA _ k_105) (fun _ h9 => h9) rfl d_O_answerOfInfinite_64 ?_
          refine va_getN (D := (dC, dI)) (ci := 1) (v := .int (b2i n2)) (C := R_R) (T := F_R) (N := 3) hx hb htA in_R hown hK hP 2 rfl rfl 0 (by decide) (va_Nw.use rfl (hnw _ n_5)) (fun _ h9 => h9) rfl d_O_answerOfInfinite_67 ?_
          refine lv_istore_n (lv' := [(2, .int (b2i n2)), (0, .ref aO), (1, .int iop)]) hx hb d_O_answerOfInfinite_70 rfl hl (by decide) rfl (fun ls hl => ?_)
          refine lv_aload_n hx hb d_O_answerOfInfinite_71 rfl (lv_at hl 1 rfl) ?_
          refine va_get (D := (dC, dI)) (ci := 0) (v := .ref a3) (C := R_O) (T := F_O) (N := 9) hx hb htA in_O hown hK hP 1 rfl rfl 6 (by decide) (htA _ k_128) (fun _ h9 => h9) rfl d_O_answerOfInfinite_72 ?_
          refine lv_iload_n hx hb d_O_answerOfInfinite_75 rfl (lv_at hl 0 rfl) ?_
          refine lv_sipush (v := 32767) hx hb d_O_answerOfInfinite_76 (by decide) ?_
          refine lv_ldc2 (v := (-9223372036854775808)) hx hb hown (htA _ k_133) d_O_answerOfInfinite_79 ?_
          have hPc := hP.sub (ws' := [(a3, .inr (1, [.int (b2i n3), .int p3, .long f3]))]) [0] rfl
          have hDc := hD.sub (ws' := [(a3, .inr (1, [.int (b2i n3), .int p3, .long f3]))]) [0] (by decide) rfl
          have hKc := hK.sub (tys' := []) [] rfl
          have hFc := va_free (wc := [(a3, .inr (1, [.int (b2i n3), .int p3, .long f3]))]) hD hS hA [0] rfl
          refine cc_v (va_runVN (As := [.int (b2i n2), .int 32767, .long (-9223372036854775808)]) (rest := []) ⟨hx, hb, hml, hown, htA⟩ (c_R_put l dC dI a3 H.size n3 p3 f3 n2 32767 (-9223372036854775808)) ⟨va_cnB 3 htA (gi_code k_18) rfl rfl rfl (hnw _ n_12) (htA _ k_20) (by decide +kernel) ⟨Nat.le_of_ble_eq_true rfl, Nat.le_of_ble_eq_true rfl⟩, htA _ k_22, htA _ k_23⟩ (pre_V hnw hPc hKc hDc (ci := 1) (q0 := 0) rfl rfl) rfl rfl hl.1 rfl (lv_room (Nat.le_of_ble_eq_true rfl)) d_O_answerOfInfinite_82 ⟨Nat.le_of_ble_eq_true rfl, Nat.le_of_ble_eq_true rfl⟩) hS hFc hP hD [0] [1, 2, 3] (wr := [(aO, .inr (0, [.ref aT, .ref aF, .int cw, .int ts, .ref a1, .ref a2, .ref a3, .ref a4, .ref a5])), (a2, .inr (1, [.int (b2i n2), .int p2, .long f2])), (a1, .inr (1, [.int (b2i n1), .int p1, .long f1]))]) rfl rfl (by decide) (by decide) (fun H locs hP hD hS => ?_)
          have hP : va_P (dC, dI) classes [(aO, .inr (0, [.ref aT, .ref aF, .int cw, .int ts, .ref a1, .ref a2, .ref a3, .ref a4, .ref a5])), (a2, .inr (1, [.int (b2i n2), .int p2, .long f2])), (a1, .inr (1, [.int (b2i n1), .int p1, .long f1])), (a3, .inr (1, [.int (b2i n2), .int 32767, .long (-9223372036854775808)]))] H := hP
          have hD : va_D A [(aO, .inr (0, [.ref aT, .ref aF, .int cw, .int ts, .ref a1, .ref a2, .ref a3, .ref a4, .ref a5])), (a2, .inr (1, [.int (b2i n2), .int p2, .long f2])), (a1, .inr (1, [.int (b2i n1), .int p1, .long f1])), (a3, .inr (1, [.int (b2i n2), .int 32767, .long (-9223372036854775808)]))] := hD
          have hE : g_O_answerOfInfinite n1 p1 f1 n2 p2 f2 iop = (n2, 32767, (-9223372036854775808)) := by clear hP hD hl hS; unfold g_O_answerOfInfinite; (try dsimp only); rw [if_pos c_4, if_neg c_14, if_pos c_40, if_neg c_50]
          have hP9 : va_P (dC, dI) classes [(aO, .inr (0, [.ref aT, .ref aF, .int cw, .int ts, .ref a1, .ref a2, .ref a3, .ref a4, .ref a5])), (a1, .inr (1, [.int (b2i n1), .int p1, .long f1])), (a2, .inr (1, [.int (b2i n2), .int p2, .long f2])), (a3, .inr (1, [.int (b2i ((g_O_answerOfInfinite n1 p1 f1 n2 p2 f2 iop).1)), .int ((g_O_answerOfInfinite n1 p1 f1 n2 p2 f2 iop).2.1), .long ((g_O_answerOfInfinite n1 p1 f1 n2 p2 f2 iop).2.2)]))] H := by rw [hE]; exact hP.sub [0, 2, 1, 3] rfl
          have hD9 : va_D A [(aO, .inr (0, [.ref aT, .ref aF, .int cw, .int ts, .ref a1, .ref a2, .ref a3, .ref a4, .ref a5])), (a1, .inr (1, [.int (b2i n1), .int p1, .long f1])), (a2, .inr (1, [.int (b2i n2), .int p2, .long f2])), (a3, .inr (1, [.int (b2i ((g_O_answerOfInfinite n1 p1 f1 n2 p2 f2 iop).1)), .int ((g_O_answerOfInfinite n1 p1 f1 n2 p2 f2 iop).2.1), .long ((g_O_answerOfInfinite n1 p1 f1 n2 p2 f2 iop).2.2)]))] := by rw [hE]; exact hD.sub [0, 2, 1, 3] (by decide) rfl
          exact W.vret hx hb hr (fun t ht hW => ⟨⟨(), rfl, trivial, by rw [ht]; exact hP9, hD9⟩, hS.F ht⟩) hS.2.2 d_O_answerOfInfinite_85
        · skip
          have c_50 : (g_R_isInfinite p1 f1) = true := b2i_nz c_50
          refine lv_aload_n hx hb d_O_answerOfInfinite_53 rfl (lv_at hl 1 rfl) ?_
          refine va_get (D := (dC, dI)) (ci := 0) (v := .ref a1) (C := R_O) (T := F_O) (N := 9) hx hb htA in_O hown hK hP 1 rfl rfl 4 (by decide) (htA _ k_104) (fun _ h9 => h9) rfl d_O_answerOfInfinite_54 ?_
          refine va_getN (D := (dC, dI)) (ci := 1) (v := .int (b2i n1)) (C := R_R) (T := F_R) (N := 3) hx hb htA in_R hown hK hP 3 rfl rfl 0 (by decide) (va_Nw.use rfl (hnw _ n_5)) (fun _ h9 => h9) rfl d_O_answerOfInfinite_57 ?_
          refine lv_goto (tgt := 70) hx hb d_O_answerOfInfinite_60 (by decide) ?_
          refine lv_istore_n (lv' := [(2, .int (b2i n1)), (0, .ref aO), (1, .int iop)]) hx hb d_O_answerOfInfinite_70 rfl hl (by decide) rfl (fun ls hl => ?_)
          refine lv_aload_n hx hb d_O_answerOfInfinite_71 rfl (lv_at hl 1 rfl) ?_
          refine va_get (D := (dC, dI)) (ci := 0) (v := .ref a3) (C := R_O) (T := F_O) (N := 9) hx hb htA in_O hown hK hP 1 rfl rfl 6 (by decide) (htA _ k_128) (fun _ h9 => h9) rfl d_O_answerOfInfinite_72 ?_
          refine lv_iload_n hx hb d_O_answerOfInfinite_75 rfl (lv_at hl 0 rfl) ?_
          refine lv_sipush (v := 32767) hx hb d_O_answerOfInfinite_76 (by decide) ?_
          refine lv_ldc2 (v := (-9223372036854775808)) hx hb hown (htA _ k_133) d_O_answerOfInfinite_79 ?_
          have hPc := hP.sub (ws' := [(a3, .inr (1, [.int (b2i n3), .int p3, .long f3]))]) [0] rfl
          have hDc := hD.sub (ws' := [(a3, .inr (1, [.int (b2i n3), .int p3, .long f3]))]) [0] (by decide) rfl
          have hKc := hK.sub (tys' := []) [] rfl
          have hFc := va_free (wc := [(a3, .inr (1, [.int (b2i n3), .int p3, .long f3]))]) hD hS hA [0] rfl
          refine cc_v (va_runVN (As := [.int (b2i n1), .int 32767, .long (-9223372036854775808)]) (rest := []) ⟨hx, hb, hml, hown, htA⟩ (c_R_put l dC dI a3 H.size n3 p3 f3 n1 32767 (-9223372036854775808)) ⟨va_cnB 3 htA (gi_code k_18) rfl rfl rfl (hnw _ n_12) (htA _ k_20) (by decide +kernel) ⟨Nat.le_of_ble_eq_true rfl, Nat.le_of_ble_eq_true rfl⟩, htA _ k_22, htA _ k_23⟩ (pre_V hnw hPc hKc hDc (ci := 1) (q0 := 0) rfl rfl) rfl rfl hl.1 rfl (lv_room (Nat.le_of_ble_eq_true rfl)) d_O_answerOfInfinite_82 ⟨Nat.le_of_ble_eq_true rfl, Nat.le_of_ble_eq_true rfl⟩) hS hFc hP hD [0] [1, 2, 3] (wr := [(aO, .inr (0, [.ref aT, .ref aF, .int cw, .int ts, .ref a1, .ref a2, .ref a3, .ref a4, .ref a5])), (a2, .inr (1, [.int (b2i n2), .int p2, .long f2])), (a1, .inr (1, [.int (b2i n1), .int p1, .long f1]))]) rfl rfl (by decide) (by decide) (fun H locs hP hD hS => ?_)
          have hP : va_P (dC, dI) classes [(aO, .inr (0, [.ref aT, .ref aF, .int cw, .int ts, .ref a1, .ref a2, .ref a3, .ref a4, .ref a5])), (a2, .inr (1, [.int (b2i n2), .int p2, .long f2])), (a1, .inr (1, [.int (b2i n1), .int p1, .long f1])), (a3, .inr (1, [.int (b2i n1), .int 32767, .long (-9223372036854775808)]))] H := hP
          have hD : va_D A [(aO, .inr (0, [.ref aT, .ref aF, .int cw, .int ts, .ref a1, .ref a2, .ref a3, .ref a4, .ref a5])), (a2, .inr (1, [.int (b2i n2), .int p2, .long f2])), (a1, .inr (1, [.int (b2i n1), .int p1, .long f1])), (a3, .inr (1, [.int (b2i n1), .int 32767, .long (-9223372036854775808)]))] := hD
          have hE : g_O_answerOfInfinite n1 p1 f1 n2 p2 f2 iop = (n1, 32767, (-9223372036854775808)) := by clear hP hD hl hS; unfold g_O_answerOfInfinite; (try dsimp only); rw [if_pos c_4, if_neg c_14, if_pos c_40, if_pos c_50]
          have hP9 : va_P (dC, dI) classes [(aO, .inr (0, [.ref aT, .ref aF, .int cw, .int ts, .ref a1, .ref a2, .ref a3, .ref a4, .ref a5])), (a1, .inr (1, [.int (b2i n1), .int p1, .long f1])), (a2, .inr (1, [.int (b2i n2), .int p2, .long f2])), (a3, .inr (1, [.int (b2i ((g_O_answerOfInfinite n1 p1 f1 n2 p2 f2 iop).1)), .int ((g_O_answerOfInfinite n1 p1 f1 n2 p2 f2 iop).2.1), .long ((g_O_answerOfInfinite n1 p1 f1 n2 p2 f2 iop).2.2)]))] H := by rw [hE]; exact hP.sub [0, 2, 1, 3] rfl
          have hD9 : va_D A [(aO, .inr (0, [.ref aT, .ref aF, .int cw, .int ts, .ref a1, .ref a2, .ref a3, .ref a4, .ref a5])), (a1, .inr (1, [.int (b2i n1), .int p1, .long f1])), (a2, .inr (1, [.int (b2i n2), .int p2, .long f2])), (a3, .inr (1, [.int (b2i ((g_O_answerOfInfinite n1 p1 f1 n2 p2 f2 iop).1)), .int ((g_O_answerOfInfinite n1 p1 f1 n2 p2 f2 iop).2.1), .long ((g_O_answerOfInfinite n1 p1 f1 n2 p2 f2 iop).2.2)]))] := by rw [hE]; exact hD.sub [0, 2, 1, 3] (by decide) rfl
          exact W.vret hx hb hr (fun t ht hW => ⟨⟨(), rfl, trivial, by rw [ht]; exact hP9, hD9⟩, hS.F ht⟩) hS.2.2 d_O_answerOfInfinite_85
    · skip
      have c_14 : (g_R_isInfinite p2 f2) = true := b2i_nz c_14
      refine lv_aload_n hx hb d_O_answerOfInfinite_17 rfl (lv_at hl 0 rfl) ?_
      refine va_get (D := (dC, dI)) (ci := 0) (v := .ref a3) (C := R_O) (T := F_O) (N := 9) hx hb htA in_O hown hK hP 0 rfl rfl 6 (by decide) (htA _ k_128) (fun _ h9 => h9) rfl d_O_answerOfInfinite_18 ?_
      refine lv_aload_n hx hb d_O_answerOfInfinite_21 rfl (lv_at hl 0 rfl) ?_
      have hPc := hP.sub (ws' := [(aO, .inr (0, [.ref aT, .ref aF, .int cw, .int ts, .ref a1, .ref a2, .ref a3, .ref a4, .ref a5])), (a1, .inr (1, [.int (b2i n1), .int p1, .long f1])), (a2, .inr (1, [.int (b2i n2), .int p2, .long f2]))]) [0, 1, 3] rfl
      have hDc := hD.sub (ws' := [(aO, .inr (0, [.ref aT, .ref aF, .int cw, .int ts, .ref a1, .ref a2, .ref a3, .ref a4, .ref a5])), (a1, .inr (1, [.int (b2i n1), .int p1, .long f1])), (a2, .inr (1, [.int (b2i n2), .int p2, .long f2]))]) [0, 1, 3] (by decide) rfl
      have hKc := hK.sub (tys' := []) [] rfl
      have hFc := va_free (wc := [(aO, .inr (0, [.ref aT, .ref aF, .int cw, .int ts, .ref a1, .ref a2, .ref a3, .ref a4, .ref a5])), (a1, .inr (1, [.int (b2i n1), .int p1, .long f1])), (a2, .inr (1, [.int (b2i n2), .int p2, .long f2]))]) hD hS hA [0, 1, 3] rfl
      refine cc_i (va_runV (As := []) (rest := [.ref a3]) ⟨hx, hb, hml, hown, htA⟩ (c_O_hasOppositeSigns l dC dI aO a1 a2 aT aF a3 a4 a5 H.size cw ts n1 p1 f1 n2 p2 f2) (cwV 0 htA (gi_V k_119 k_120 k_121 k_90 (gi_code k_106)) rfl rfl rfl (by decide +kernel) ⟨Nat.le_of_ble_eq_true rfl, Nat.le_of_ble_eq_true rfl⟩) (pre_V hnw hPc hKc hDc (ci := 0) (q0 := 0) rfl rfl) rfl rfl hl.1 rfl (lv_room (Nat.le_of_ble_eq_true rfl)) d_O_answerOfInfinite_22 ⟨Nat.le_of_ble_eq_true rfl, Nat.le_of_ble_eq_true rfl⟩) hS hFc hP hD [0, 1, 3] [2] (wr := [(a3, .inr (1, [.int (b2i n3), .int p3, .long f3]))]) rfl rfl (by decide) (by decide) (fun H locs hP hD hS => ?_)
      have hP : va_P (dC, dI) classes [(a3, .inr (1, [.int (b2i n3), .int p3, .long f3])), (aO, .inr (0, [.ref aT, .ref aF, .int cw, .int ts, .ref a1, .ref a2, .ref a3, .ref a4, .ref a5])), (a1, .inr (1, [.int (b2i n1), .int p1, .long f1])), (a2, .inr (1, [.int (b2i n2), .int p2, .long f2]))] H := hP
      have hD : va_D A [(a3, .inr (1, [.int (b2i n3), .int p3, .long f3])), (aO, .inr (0, [.ref aT, .ref aF, .int cw, .int ts, .ref a1, .ref a2, .ref a3, .ref a4, .ref a5])), (a1, .inr (1, [.int (b2i n1), .int p1, .long f1])), (a2, .inr (1, [.int (b2i n2), .int p2, .long f2]))] := hD
      refine lv_iconst (v := 0) hx hb d_O_answerOfInfinite_25 (by decide) ?_
      refine lv_lconst (v := 0) hx hb d_O_answerOfInfinite_26 (by decide) ?_
      have hPc := hP.sub (ws' := [(a3, .inr (1, [.int (b2i n3), .int p3, .long f3]))]) [0] rfl
      have hDc := hD.sub (ws' := [(a3, .inr (1, [.int (b2i n3), .int p3, .long f3]))]) [0] (by decide) rfl
      have hKc := hK.sub (tys' := []) [] rfl
      have hFc := va_free (wc := [(a3, .inr (1, [.int (b2i n3), .int p3, .long f3]))]) hD hS hA [0] rfl
      refine cc_v (va_runVN (As := [.int (b2i (g_O_hasOppositeSigns n1 n2)), .int 0, .long 0]) (rest := []) ⟨hx, hb, hml, hown, htA⟩ (c_R_put l dC dI a3 H.size n3 p3 f3 (g_O_hasOppositeSigns n1 n2) 0 0) ⟨va_cnB 3 htA (gi_code k_18) rfl rfl rfl (hnw _ n_12) (htA _ k_20) (by decide +kernel) ⟨Nat.le_of_ble_eq_true rfl, Nat.le_of_ble_eq_true rfl⟩, htA _ k_22, htA _ k_23⟩ (pre_V hnw hPc hKc hDc (ci := 1) (q0 := 0) rfl rfl) rfl rfl hl.1 rfl (lv_room (Nat.le_of_ble_eq_true rfl)) d_O_answerOfInfinite_27 ⟨Nat.le_of_ble_eq_true rfl, Nat.le_of_ble_eq_true rfl⟩) hS hFc hP hD [0] [1, 2, 3] (wr := [(aO, .inr (0, [.ref aT, .ref aF, .int cw, .int ts, .ref a1, .ref a2, .ref a3, .ref a4, .ref a5])), (a1, .inr (1, [.int (b2i n1), .int p1, .long f1])), (a2, .inr (1, [.int (b2i n2), .int p2, .long f2]))]) rfl rfl (by decide) (by decide) (fun H locs hP hD hS => ?_)
      have hP : va_P (dC, dI) classes [(aO, .inr (0, [.ref aT, .ref aF, .int cw, .int ts, .ref a1, .ref a2, .ref a3, .ref a4, .ref a5])), (a1, .inr (1, [.int (b2i n1), .int p1, .long f1])), (a2, .inr (1, [.int (b2i n2), .int p2, .long f2])), (a3, .inr (1, [.int (b2i (g_O_hasOppositeSigns n1 n2)), .int 0, .long 0]))] H := hP
      have hD : va_D A [(aO, .inr (0, [.ref aT, .ref aF, .int cw, .int ts, .ref a1, .ref a2, .ref a3, .ref a4, .ref a5])), (a1, .inr (1, [.int (b2i n1), .int p1, .long f1])), (a2, .inr (1, [.int (b2i n2), .int p2, .long f2])), (a3, .inr (1, [.int (b2i (g_O_hasOppositeSigns n1 n2)), .int 0, .long 0]))] := hD
      have hE : g_O_answerOfInfinite n1 p1 f1 n2 p2 f2 iop = ((g_O_hasOppositeSigns n1 n2), 0, 0) := by clear hP hD hl hS; unfold g_O_answerOfInfinite; (try dsimp only); rw [if_pos c_4, if_pos c_14]
      have hP9 : va_P (dC, dI) classes [(aO, .inr (0, [.ref aT, .ref aF, .int cw, .int ts, .ref a1, .ref a2, .ref a3, .ref a4, .ref a5])), (a1, .inr (1, [.int (b2i n1), .int p1, .long f1])), (a2, .inr (1, [.int (b2i n2), .int p2, .long f2])), (a3, .inr (1, [.int (b2i ((g_O_answerOfInfinite n1 p1 f1 n2 p2 f2 iop).1)), .int ((g_O_answerOfInfinite n1 p1 f1 n2 p2 f2 iop).2.1), .long ((g_O_answerOfInfinite n1 p1 f1 n2 p2 f2 iop).2.2)]))] H := by rw [hE]; exact hP.sub [0, 1, 2, 3] rfl
      have hD9 : va_D A [(aO, .inr (0, [.ref aT, .ref aF, .int cw, .int ts, .ref a1, .ref a2, .ref a3, .ref a4, .ref a5])), (a1, .inr (1, [.int (b2i n1), .int p1, .long f1])), (a2, .inr (1, [.int (b2i n2), .int p2, .long f2])), (a3, .inr (1, [.int (b2i ((g_O_answerOfInfinite n1 p1 f1 n2 p2 f2 iop).1)), .int ((g_O_answerOfInfinite n1 p1 f1 n2 p2 f2 iop).2.1), .long ((g_O_answerOfInfinite n1 p1 f1 n2 p2 f2 iop).2.2)]))] := by rw [hE]; exact hD.sub [0, 1, 2, 3] (by decide) rfl
      exact W.vret hx hb hr (fun t ht hW => ⟨⟨(), rfl, trivial, by rw [ht]; exact hP9, hD9⟩, hS.F ht⟩) hS.2.2 d_O_answerOfInfinite_30
