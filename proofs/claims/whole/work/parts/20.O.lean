theorem d_O_computeSum_0 : decode b_O_computeSum 0 = .ok (.aload_n 0, 1) := by decide +kernel
theorem d_O_computeSum_1 : decode b_O_computeSum 1 = .ok (.invokevirtual 133, 3) := by decide +kernel
theorem d_O_computeSum_4 : decode b_O_computeSum 4 = .ok (.istore_n 1, 1) := by decide +kernel
theorem d_O_computeSum_5 : decode b_O_computeSum 5 = .ok (.aload_n 0, 1) := by decide +kernel
theorem d_O_computeSum_6 : decode b_O_computeSum 6 = .ok (.getfield 27, 3) := by decide +kernel
theorem d_O_computeSum_9 : decode b_O_computeSum 9 = .ok (.getfield 108, 3) := by decide +kernel
theorem d_O_computeSum_12 : decode b_O_computeSum 12 = .ok (.istore_n 2, 1) := by decide +kernel
theorem d_O_computeSum_13 : decode b_O_computeSum 13 = .ok (.aload_n 0, 1) := by decide +kernel
theorem d_O_computeSum_14 : decode b_O_computeSum 14 = .ok (.getfield 40, 3) := by decide +kernel
theorem d_O_computeSum_17 : decode b_O_computeSum 17 = .ok (.aload_n 0, 1) := by decide +kernel
theorem d_O_computeSum_18 : decode b_O_computeSum 18 = .ok (.getfield 44, 3) := by decide +kernel
theorem d_O_computeSum_21 : decode b_O_computeSum 21 = .ok (.invokevirtual 186, 3) := by decide +kernel
theorem d_O_computeSum_24 : decode b_O_computeSum 24 = .ok (.ifCond .eq 33, 3) := by decide +kernel
theorem d_O_computeSum_27 : decode b_O_computeSum 27 = .ok (.aload_n 0, 1) := by decide +kernel
theorem d_O_computeSum_28 : decode b_O_computeSum 28 = .ok (.getfield 40, 3) := by decide +kernel
theorem d_O_computeSum_31 : decode b_O_computeSum 31 = .ok (.aload_n 0, 1) := by decide +kernel
theorem d_O_computeSum_32 : decode b_O_computeSum 32 = .ok (.getfield 31, 3) := by decide +kernel
theorem d_O_computeSum_35 : decode b_O_computeSum 35 = .ok (.invokevirtual 170, 3) := by decide +kernel
theorem d_O_computeSum_38 : decode b_O_computeSum 38 = .ok (.aload_n 0, 1) := by decide +kernel
theorem d_O_computeSum_39 : decode b_O_computeSum 39 = .ok (.getfield 44, 3) := by decide +kernel
theorem d_O_computeSum_42 : decode b_O_computeSum 42 = .ok (.aload_n 0, 1) := by decide +kernel
theorem d_O_computeSum_43 : decode b_O_computeSum 43 = .ok (.getfield 27, 3) := by decide +kernel
theorem d_O_computeSum_46 : decode b_O_computeSum 46 = .ok (.invokevirtual 170, 3) := by decide +kernel
theorem d_O_computeSum_49 : decode b_O_computeSum 49 = .ok (.aload_n 0, 1) := by decide +kernel
theorem d_O_computeSum_50 : decode b_O_computeSum 50 = .ok (.getfield 31, 3) := by decide +kernel
theorem d_O_computeSum_53 : decode b_O_computeSum 53 = .ok (.getfield 108, 3) := by decide +kernel
theorem d_O_computeSum_56 : decode b_O_computeSum 56 = .ok (.istore_n 2, 1) := by decide +kernel
theorem d_O_computeSum_57 : decode b_O_computeSum 57 = .ok (.iload_n 1, 1) := by decide +kernel
theorem d_O_computeSum_58 : decode b_O_computeSum 58 = .ok (.ifCond .ne 16, 3) := by decide +kernel
theorem d_O_computeSum_74 : decode b_O_computeSum 74 = .ok (.aload_n 0, 1) := by decide +kernel
theorem d_O_computeSum_75 : decode b_O_computeSum 75 = .ok (.getfield 40, 3) := by decide +kernel
theorem d_O_computeSum_78 : decode b_O_computeSum 78 = .ok (.aload_n 0, 1) := by decide +kernel
theorem d_O_computeSum_79 : decode b_O_computeSum 79 = .ok (.getfield 44, 3) := by decide +kernel
theorem d_O_computeSum_82 : decode b_O_computeSum 82 = .ok (.invokevirtual 193, 3) := by decide +kernel
theorem d_O_computeSum_85 : decode b_O_computeSum 85 = .ok (.aload_n 0, 1) := by decide +kernel
theorem d_O_computeSum_86 : decode b_O_computeSum 86 = .ok (.getfield 40, 3) := by decide +kernel
theorem d_O_computeSum_89 : decode b_O_computeSum 89 = .ok (.invokevirtual 196, 3) := by decide +kernel
theorem d_O_computeSum_92 : decode b_O_computeSum 92 = .ok (.ifCond .eq 19, 3) := by decide +kernel
theorem d_O_computeSum_111 : decode b_O_computeSum 111 = .ok (.iload_n 2, 1) := by decide +kernel
theorem d_O_computeSum_112 : decode b_O_computeSum 112 = .ok (.ireturn, 1) := by decide +kernel
theorem d_O_computeSum_95 : decode b_O_computeSum 95 = .ok (.aload_n 0, 1) := by decide +kernel
theorem d_O_computeSum_96 : decode b_O_computeSum 96 = .ok (.invokevirtual 199, 3) := by decide +kernel
theorem d_O_computeSum_99 : decode b_O_computeSum 99 = .ok (.iconst 1, 1) := by decide +kernel
theorem d_O_computeSum_100 : decode b_O_computeSum 100 = .ok (.if_icmp .ne 7, 3) := by decide +kernel
theorem d_O_computeSum_107 : decode b_O_computeSum 107 = .ok (.iconst 0, 1) := by decide +kernel
theorem d_O_computeSum_108 : decode b_O_computeSum 108 = .ok (.goto 4, 3) := by decide +kernel
theorem d_O_computeSum_103 : decode b_O_computeSum 103 = .ok (.iconst 1, 1) := by decide +kernel
theorem d_O_computeSum_104 : decode b_O_computeSum 104 = .ok (.goto 8, 3) := by decide +kernel
theorem d_O_computeSum_61 : decode b_O_computeSum 61 = .ok (.aload_n 0, 1) := by decide +kernel
theorem d_O_computeSum_62 : decode b_O_computeSum 62 = .ok (.getfield 40, 3) := by decide +kernel
theorem d_O_computeSum_65 : decode b_O_computeSum 65 = .ok (.aload_n 0, 1) := by decide +kernel
theorem d_O_computeSum_66 : decode b_O_computeSum 66 = .ok (.getfield 44, 3) := by decide +kernel
theorem d_O_computeSum_69 : decode b_O_computeSum 69 = .ok (.invokevirtual 190, 3) := by decide +kernel
theorem d_O_computeSum_72 : decode b_O_computeSum 72 = .ok (.iload_n 2, 1) := by decide +kernel
theorem d_O_computeSum_73 : decode b_O_computeSum 73 = .ok (.ireturn, 1) := by decide +kernel
set_option maxHeartbeats 4000000 in
set_option maxRecDepth 100000 in
theorem c_O_computeSum (l : Launch) (dC : Nat → ClassId) (dI : Nat → Nat → Nat) (aO : Nat) (a1 : Nat) (a2 : Nat) (a4 : Nat) (a5 : Nat) (aT : Nat) (aF : Nat) (a3 : Nat) (sz : Nat) (cw : Int32) (ts : Int32) (n1 : Bool) (p1 : Int32) (f1 : Int64) (n2 : Bool) (p2 : Int32) (f2 : Int64) (hi : Int64) (lo : Int64) (ex : Int32) (hi2 : Int64) (lo2 : Int64) (ex2 : Int32) : Met l y_O_computeSum w_O_computeSum ({ frames := 3, cells := 0, slots := 0, locals := 68 }) (cPc (dC, dI) [] [.ref aO] [(aO, .inr (0, [.ref aT, .ref aF, .int cw, .int ts, .ref a1, .ref a2, .ref a3, .ref a4, .ref a5])), (a1, .inr (1, [.int (b2i n1), .int p1, .long f1])), (a2, .inr (1, [.int (b2i n2), .int p2, .long f2])), (a4, .inr (2, [.long hi, .long lo, .int ex])), (a5, .inr (2, [.long hi2, .long lo2, .int ex2]))] sz) (va_Qi (fun (r : Int32) (_ : Unit) => r = b2i ((g_O_computeSum cw n1 p1 f1 n2 p2 f2 hi lo ex hi2 lo2 ex2).1)) (fun _ t => va_P (dC, dI) classes [(aO, .inr (0, [.ref aT, .ref aF, .int cw, .int ts, .ref a1, .ref a2, .ref a3, .ref a4, .ref a5])), (a1, .inr (1, [.int (b2i n1), .int p1, .long f1])), (a2, .inr (1, [.int (b2i n2), .int p2, .long f2])), (a4, .inr (2, [.long ((g_O_computeSum cw n1 p1 f1 n2 p2 f2 hi lo ex hi2 lo2 ex2).2.1), .long ((g_O_computeSum cw n1 p1 f1 n2 p2 f2 hi lo ex hi2 lo2 ex2).2.2.1), .int ((g_O_computeSum cw n1 p1 f1 n2 p2 f2 hi lo ex hi2 lo2 ex2).2.2.2.1)])), (a5, .inr (2, [.long ((g_O_computeSum cw n1 p1 f1 n2 p2 f2 hi lo ex hi2 lo2 ex2).2.2.2.2.1), .long ((g_O_computeSum cw n1 p1 f1 n2 p2 f2 hi lo ex hi2 lo2 ex2).2.2.2.2.2.1), .int ((g_O_computeSum cw n1 p1 f1 n2 p2 f2 hi lo ex hi2 lo2 ex2).2.2.2.2.2.2)]))] t.heap ∧ va_D (va_A [(aO, .inr (0, [.ref aT, .ref aF, .int cw, .int ts, .ref a1, .ref a2, .ref a3, .ref a4, .ref a5])), (a1, .inr (1, [.int (b2i n1), .int p1, .long f1])), (a2, .inr (1, [.int (b2i n2), .int p2, .long f2])), (a4, .inr (2, [.long hi, .long lo, .int ex])), (a5, .inr (2, [.long hi2, .long lo2, .int ex2]))] sz) [(aO, .inr (0, [.ref aT, .ref aF, .int cw, .int ts, .ref a1, .ref a2, .ref a3, .ref a4, .ref a5])), (a1, .inr (1, [.int (b2i n1), .int p1, .long f1])), (a2, .inr (1, [.int (b2i n2), .int p2, .long f2])), (a4, .inr (2, [.long ((g_O_computeSum cw n1 p1 f1 n2 p2 f2 hi lo ex hi2 lo2 ex2).2.1), .long ((g_O_computeSum cw n1 p1 f1 n2 p2 f2 hi lo ex hi2 lo2 ex2).2.2.1), .int ((g_O_computeSum cw n1 p1 f1 n2 p2 f2 hi lo ex hi2 lo2 ex2).2.2.2.1)])), (a5, .inr (2, [.long ((g_O_computeSum cw n1 p1 f1 n2 p2 f2 hi lo ex hi2 lo2 ex2).2.2.2.2.1), .long ((g_O_computeSum cw n1 p1 f1 n2 p2 f2 hi lo ex hi2 lo2 ex2).2.2.2.2.2.1), .int ((g_O_computeSum cw n1 p1 f1 n2 p2 f2 hi lo ex hi2 lo2 ex2).2.2.2.2.2.2)]))]) (va_A [(aO, .inr (0, [.ref aT, .ref aF, .int cw, .int ts, .ref a1, .ref a2, .ref a3, .ref a4, .ref a5])), (a1, .inr (1, [.int (b2i n1), .int p1, .long f1])), (a2, .inr (1, [.int (b2i n2), .int p2, .long f2])), (a4, .inr (2, [.long hi, .long lo, .int ex])), (a5, .inr (2, [.long hi2, .long lo2, .int ex2]))] sz)) 0 0 (va_A [(aO, .inr (0, [.ref aT, .ref aF, .int cw, .int ts, .ref a1, .ref a2, .ref a3, .ref a4, .ref a5])), (a1, .inr (1, [.int (b2i n1), .int p1, .long f1])), (a2, .inr (1, [.int (b2i n2), .int p2, .long f2])), (a4, .inr (2, [.long hi, .long lo, .int ex])), (a5, .inr (2, [.long hi2, .long lo2, .int ex2]))] sz) := by
  refine Met.ofW (cc := b_O_computeSum) (maxL := 3) (ret := (some .boolean)) (by decide) rfl ?_
  intro p e s m args below meth c s₁ B hml hv
  obtain ⟨rfl, hsz, hP, hK, hD0, hnw⟩ := hv
  have hx := B.exec
  have hb := B.bytes
  have hr := B.returns
  have hts := atoms_spec (ws := w_O_computeSum) B.pre
  have htA : ∀ w ∈ wAll, w.before _ s = true := fun w h => hts w (List.mem_cons_of_mem _ h)
  have hown : s.vm.findClass R_O = some m.cls := findClass_of_methodNamed B.named
  have hlocks := B.notSynchronized
  subst hsz
  have hD := hD0.self (sz := s.heap.size)
  generalize hAe : va_A [(aO, .inr (0, [.ref aT, .ref aF, .int cw, .int ts, .ref a1, .ref a2, .ref a3, .ref a4, .ref a5])), (a1, .inr (1, [.int (b2i n1), .int p1, .long f1])), (a2, .inr (1, [.int (b2i n2), .int p2, .long f2])), (a4, .inr (2, [.long hi, .long lo, .int ex])), (a5, .inr (2, [.long hi2, .long lo2, .int ex2]))] s.heap.size = A at hD ⊢
  have hA : ∀ q : Nat, s.heap.size ≤ q → A q := fun q h => by rw [← hAe]; exact Or.inr h
  have hS : va_S A s.heap s.heap [] := va_S.rf
  have hP : va_P (dC, dI) classes [(aO, .inr (0, [.ref aT, .ref aF, .int cw, .int ts, .ref a1, .ref a2, .ref a3, .ref a4, .ref a5])), (a1, .inr (1, [.int (b2i n1), .int p1, .long f1])), (a2, .inr (1, [.int (b2i n2), .int p2, .long f2])), (a4, .inr (2, [.long hi, .long lo, .int ex])), (a5, .inr (2, [.long hi2, .long lo2, .int ex2]))] s.heap := hP
  obtain ⟨H, eH⟩ : ∃ z, z = s.heap := ⟨_, rfl⟩
  rw [← eH] at hP
  have hS : va_S A s.heap H [] := by rw [eH]; exact hS
  rw [← eH]
  generalize ([] : List Loc) = locs at hS ⊢
  have hl := lv_entry ([.ref aO]) (n := 3) (Nat.le_of_ble_eq_true rfl)
  rw [lg_entry_eq]
  generalize (lg_sl ([.ref aO]) ++ List.replicate (3 - (lg_sl ([.ref aO])).length) Slot.unset).toArray = ls at hl ⊢
  have hl : lv_has ls 3 [(0, .ref aO)] := hl
  refine lv_aload_n hx hb d_O_computeSum_0 rfl (lv_at hl 0 rfl) ?_
  have hPc := hP.sub (ws' := [(aO, .inr (0, [.ref aT, .ref aF, .int cw, .int ts, .ref a1, .ref a2, .ref a3, .ref a4, .ref a5])), (a1, .inr (1, [.int (b2i n1), .int p1, .long f1])), (a2, .inr (1, [.int (b2i n2), .int p2, .long f2]))]) [0, 1, 2] rfl
  have hDc := hD.sub (ws' := [(aO, .inr (0, [.ref aT, .ref aF, .int cw, .int ts, .ref a1, .ref a2, .ref a3, .ref a4, .ref a5])), (a1, .inr (1, [.int (b2i n1), .int p1, .long f1])), (a2, .inr (1, [.int (b2i n2), .int p2, .long f2]))]) [0, 1, 2] (by decide) rfl
  have hKc := hK.sub (tys' := []) [] rfl
  have hFc := va_free (wc := [(aO, .inr (0, [.ref aT, .ref aF, .int cw, .int ts, .ref a1, .ref a2, .ref a3, .ref a4, .ref a5])), (a1, .inr (1, [.int (b2i n1), .int p1, .long f1])), (a2, .inr (1, [.int (b2i n2), .int p2, .long f2]))]) hD hS hA [0, 1, 2] rfl
  refine cc_i (va_runV (As := []) (rest := []) ⟨hx, hb, hml, hown, htA⟩ (c_O_hasOppositeSigns l dC dI aO a1 a2 aT aF a3 a4 a5 H.size cw ts n1 p1 f1 n2 p2 f2) (cwV 0 htA (gi_V k_119 k_120 k_121 k_90 (gi_code k_106)) rfl rfl rfl (by decide +kernel) ⟨Nat.le_of_ble_eq_true rfl, Nat.le_of_ble_eq_true rfl⟩) (pre_V hnw hPc hKc hDc (ci := 0) (q0 := 0) rfl rfl) rfl rfl hl.1 rfl (lv_room (Nat.le_of_ble_eq_true rfl)) d_O_computeSum_1 ⟨Nat.le_of_ble_eq_true rfl, Nat.le_of_ble_eq_true rfl⟩) hS hFc hP hD [0, 1, 2] [3, 4] (wr := [(a4, .inr (2, [.long hi, .long lo, .int ex])), (a5, .inr (2, [.long hi2, .long lo2, .int ex2]))]) rfl rfl (by decide) (by decide) (fun H locs hP hD hS => ?_)
  have hP : va_P (dC, dI) classes [(a4, .inr (2, [.long hi, .long lo, .int ex])), (a5, .inr (2, [.long hi2, .long lo2, .int ex2])), (aO, .inr (0, [.ref aT, .ref aF, .int cw, .int ts, .ref a1, .ref a2, .ref a3, .ref a4, .ref a5])), (a1, .inr (1, [.int (b2i n1), .int p1, .long f1])), (a2, .inr (1, [.int (b2i n2), .int p2, .long f2]))] H := hP
  have hD : va_D A [(a4, .inr (2, [.long hi, .long lo, .int ex])), (a5, .inr (2, [.long hi2, .long lo2, .int ex2])), (aO, .inr (0, [.ref aT, .ref aF, .int cw, .int ts, .ref a1, .ref a2, .ref a3, .ref a4, .ref a5])), (a1, .inr (1, [.int (b2i n1), .int p1, .long f1])), (a2, .inr (1, [.int (b2i n2), .int p2, .long f2]))] := hD
  refine lv_istore_n (lv' := [(1, .int (b2i (g_O_hasOppositeSigns n1 n2))), (0, .ref aO)]) hx hb d_O_computeSum_4 rfl hl (by decide) rfl (fun ls hl => ?_)
  refine lv_aload_n hx hb d_O_computeSum_5 rfl (lv_at hl 1 rfl) ?_
  refine va_get (D := (dC, dI)) (ci := 0) (v := .ref a1) (C := R_O) (T := F_O) (N := 9) hx hb htA in_O hown hK hP 2 rfl rfl 4 (by decide) (htA _ k_104) (fun _ h9 => h9) rfl d_O_computeSum_6 ?_
  refine va_getN (D := (dC, dI)) (ci := 1) (v := .int (b2i n1)) (C := R_R) (T := F_R) (N := 3) hx hb htA in_R hown hK hP 3 rfl rfl 0 (by decide) (va_Nw.use rfl (hnw _ n_5)) (fun _ h9 => h9) rfl d_O_computeSum_9 ?_
  refine lv_istore_n (lv' := [(2, .int (b2i n1)), (1, .int (b2i (g_O_hasOppositeSigns n1 n2))), (0, .ref aO)]) hx hb d_O_computeSum_12 rfl hl (by decide) rfl (fun ls hl => ?_)
  refine lv_aload_n hx hb d_O_computeSum_13 rfl (lv_at hl 2 rfl) ?_
  refine va_get (D := (dC, dI)) (ci := 0) (v := .ref a4) (C := R_O) (T := F_O) (N := 9) hx hb htA in_O hown hK hP 2 rfl rfl 7 (by decide) (htA _ k_135) (fun _ h9 => h9) rfl d_O_computeSum_14 ?_
  refine lv_aload_n hx hb d_O_computeSum_17 rfl (lv_at hl 2 rfl) ?_
  refine va_get (D := (dC, dI)) (ci := 0) (v := .ref a5) (C := R_O) (T := F_O) (N := 9) hx hb htA in_O hown hK hP 2 rfl rfl 8 (by decide) (htA _ k_136) (fun _ h9 => h9) rfl d_O_computeSum_18 ?_
  have hPc := hP.sub (ws' := [(a4, .inr (2, [.long hi, .long lo, .int ex])), (a5, .inr (2, [.long hi2, .long lo2, .int ex2]))]) [0, 1] rfl
  have hDc := hD.sub (ws' := [(a4, .inr (2, [.long hi, .long lo, .int ex])), (a5, .inr (2, [.long hi2, .long lo2, .int ex2]))]) [0, 1] (by decide) rfl
  have hKc := hK.sub (tys' := []) [] rfl
  have hFc := va_free (wc := [(a4, .inr (2, [.long hi, .long lo, .int ex])), (a5, .inr (2, [.long hi2, .long lo2, .int ex2]))]) hD hS hA [0, 1] rfl
  refine cc_i (va_runVN (As := [.ref a5]) (rest := []) ⟨hx, hb, hml, hown, htA⟩ (c_S_isLessThan l dC dI a4 a5 H.size hi lo ex hi2 lo2 ex2) ⟨va_cnB 1 htA (gi_code k_35) rfl rfl rfl (hnw _ n_13) (htA _ k_36) (by decide +kernel) ⟨Nat.le_of_ble_eq_true rfl, Nat.le_of_ble_eq_true rfl⟩, htA _ k_137, htA _ k_138⟩ (pre_V hnw hPc hKc hDc (ci := 2) (q0 := 0) rfl rfl) rfl rfl hl.1 rfl (lv_room (Nat.le_of_ble_eq_true rfl)) d_O_computeSum_21 ⟨Nat.le_of_ble_eq_true rfl, Nat.le_of_ble_eq_true rfl⟩) hS hFc hP hD [0, 1] [2, 3, 4] (wr := [(aO, .inr (0, [.ref aT, .ref aF, .int cw, .int ts, .ref a1, .ref a2, .ref a3, .ref a4, .ref a5])), (a1, .inr (1, [.int (b2i n1), .int p1, .long f1])), (a2, .inr (1, [.int (b2i n2), .int p2, .long f2]))]) rfl rfl (by decide) (by decide) (fun H locs hP hD hS => ?_)
  have hP : va_P (dC, dI) classes [(aO, .inr (0, [.ref aT, .ref aF, .int cw, .int ts, .ref a1, .ref a2, .ref a3, .ref a4, .ref a5])), (a1, .inr (1, [.int (b2i n1), .int p1, .long f1])), (a2, .inr (1, [.int (b2i n2), .int p2, .long f2])), (a4, .inr (2, [.long hi, .long lo, .int ex])), (a5, .inr (2, [.long hi2, .long lo2, .int ex2]))] H := hP
  have hD : va_D A [(aO, .inr (0, [.ref aT, .ref aF, .int cw, .int ts, .ref a1, .ref a2, .ref a3, .ref a4, .ref a5])), (a1, .inr (1, [.int (b2i n1), .int p1, .long f1])), (a2, .inr (1, [.int (b2i n2), .int p2, .long f2])), (a4, .inr (2, [.long hi, .long lo, .int ex])), (a5, .inr (2, [.long hi2, .long lo2, .int ex2]))] := hD
  refine cut_join (X := Bool × Int64 × Int64 × Int32 × Int64 × Int64 × Int32) 0 0 (fun (x : Bool × Int64 × Int64 × Int32 × Int64 × Int64 × Int32) (H : Heap) (locs : List Loc) (ls : Array Slot) => (if (g_S_isLessThan hi ex hi2 ex2) = true then let z35 : Int64 × Int64 × Int32 := g_S_take p2 f2; (let z46 : Int64 × Int64 × Int32 := g_S_take p1 f1; (n2)) else n1) = x.1 ∧ (if (g_S_isLessThan hi ex hi2 ex2) = true then let z35 : Int64 × Int64 × Int32 := g_S_take p2 f2; (let z46 : Int64 × Int64 × Int32 := g_S_take p1 f1; (z35.1)) else hi) = x.2.1 ∧ (if (g_S_isLessThan hi ex hi2 ex2) = true then let z35 : Int64 × Int64 × Int32 := g_S_take p2 f2; (let z46 : Int64 × Int64 × Int32 := g_S_take p1 f1; (z35.2.1)) else lo) = x.2.2.1 ∧ (if (g_S_isLessThan hi ex hi2 ex2) = true then let z35 : Int64 × Int64 × Int32 := g_S_take p2 f2; (let z46 : Int64 × Int64 × Int32 := g_S_take p1 f1; (z35.2.2)) else ex) = x.2.2.2.1 ∧ (if (g_S_isLessThan hi ex hi2 ex2) = true then let z35 : Int64 × Int64 × Int32 := g_S_take p2 f2; (let z46 : Int64 × Int64 × Int32 := g_S_take p1 f1; (z46.1)) else hi2) = x.2.2.2.2.1 ∧ (if (g_S_isLessThan hi ex hi2 ex2) = true then let z35 : Int64 × Int64 × Int32 := g_S_take p2 f2; (let z46 : Int64 × Int64 × Int32 := g_S_take p1 f1; (z46.2.1)) else lo2) = x.2.2.2.2.2.1 ∧ (if (g_S_isLessThan hi ex hi2 ex2) = true then let z35 : Int64 × Int64 × Int32 := g_S_take p2 f2; (let z46 : Int64 × Int64 × Int32 := g_S_take p1 f1; (z46.2.2)) else ex2) = x.2.2.2.2.2.2 ∧ va_P (dC, dI) classes [(aO, .inr (0, [.ref aT, .ref aF, .int cw, .int ts, .ref a1, .ref a2, .ref a3, .ref a4, .ref a5])), (a1, .inr (1, [.int (b2i n1), .int p1, .long f1])), (a2, .inr (1, [.int (b2i n2), .int p2, .long f2])), (a4, .inr (2, [.long x.2.1, .long x.2.2.1, .int x.2.2.2.1])), (a5, .inr (2, [.long x.2.2.2.2.1, .long x.2.2.2.2.2.1, .int x.2.2.2.2.2.2]))] H ∧ va_D A [(aO, .inr (0, [.ref aT, .ref aF, .int cw, .int ts, .ref a1, .ref a2, .ref a3, .ref a4, .ref a5])), (a1, .inr (1, [.int (b2i n1), .int p1, .long f1])), (a2, .inr (1, [.int (b2i n2), .int p2, .long f2])), (a4, .inr (2, [.long x.2.1, .long x.2.2.1, .int x.2.2.2.1])), (a5, .inr (2, [.long x.2.2.2.2.1, .long x.2.2.2.2.2.1, .int x.2.2.2.2.2.2]))] ∧ va_S A s.heap H locs ∧ lv_has ls 3 [(0, .ref aO), (1, .int (b2i (g_O_hasOppositeSigns n1 n2))), (2, .int (b2i x.1))]) (fun x ls => F0 m 57 ls []) ?_ (fun J57 => ?_)
  · skip
    rintro ⟨j57_0, j57_1, j57_2, j57_3, j57_4, j57_5, j57_6⟩ H locs ls ⟨ej57_0, ej57_1, ej57_2, ej57_3, ej57_4, ej57_5, ej57_6, hP, hD, hS, hl⟩
    have ej57_0 : (if (g_S_isLessThan hi ex hi2 ex2) = true then let z35 : Int64 × Int64 × Int32 := g_S_take p2 f2; (let z46 : Int64 × Int64 × Int32 := g_S_take p1 f1; (n2)) else n1) = j57_0 := ej57_0
    have ej57_1 : (if (g_S_isLessThan hi ex hi2 ex2) = true then let z35 : Int64 × Int64 × Int32 := g_S_take p2 f2; (let z46 : Int64 × Int64 × Int32 := g_S_take p1 f1; (z35.1)) else hi) = j57_1 := ej57_1
    have ej57_2 : (if (g_S_isLessThan hi ex hi2 ex2) = true then let z35 : Int64 × Int64 × Int32 := g_S_take p2 f2; (let z46 : Int64 × Int64 × Int32 := g_S_take p1 f1; (z35.2.1)) else lo) = j57_2 := ej57_2
    have ej57_3 : (if (g_S_isLessThan hi ex hi2 ex2) = true then let z35 : Int64 × Int64 × Int32 := g_S_take p2 f2; (let z46 : Int64 × Int64 × Int32 := g_S_take p1 f1; (z35.2.2)) else ex) = j57_3 := ej57_3
    have ej57_4 : (if (g_S_isLessThan hi ex hi2 ex2) = true then let z35 : Int64 × Int64 × Int32 := g_S_take p2 f2; (let z46 : Int64 × Int64 × Int32 := g_S_take p1 f1; (z46.1)) else hi2) = j57_4 := ej57_4
    have ej57_5 : (if (g_S_isLessThan hi ex hi2 ex2) = true then let z35 : Int64 × Int64 × Int32 := g_S_take p2 f2; (let z46 : Int64 × Int64 × Int32 := g_S_take p1 f1; (z46.2.1)) else lo2) = j57_5 := ej57_5
    have ej57_6 : (if (g_S_isLessThan hi ex hi2 ex2) = true then let z35 : Int64 × Int64 × Int32 := g_S_take p2 f2; (let z46 : Int64 × Int64 × Int32 := g_S_take p1 f1; (z46.2.2)) else ex2) = j57_6 := ej57_6
    have hP : va_P (dC, dI) classes [(aO, .inr (0, [.ref aT, .ref aF, .int cw, .int ts, .ref a1, .ref a2, .ref a3, .ref a4, .ref a5])), (a1, .inr (1, [.int (b2i n1), .int p1, .long f1])), (a2, .inr (1, [.int (b2i n2), .int p2, .long f2])), (a4, .inr (2, [.long j57_1, .long j57_2, .int j57_3])), (a5, .inr (2, [.long j57_4, .long j57_5, .int j57_6]))] H := hP
    have hD : va_D A [(aO, .inr (0, [.ref aT, .ref aF, .int cw, .int ts, .ref a1, .ref a2, .ref a3, .ref a4, .ref a5])), (a1, .inr (1, [.int (b2i n1), .int p1, .long f1])), (a2, .inr (1, [.int (b2i n2), .int p2, .long f2])), (a4, .inr (2, [.long j57_1, .long j57_2, .int j57_3])), (a5, .inr (2, [.long j57_4, .long j57_5, .int j57_6]))] := hD
    have hl : lv_has ls 3 [(0, .ref aO), (1, .int (b2i (g_O_hasOppositeSigns n1 n2))), (2, .int (b2i j57_0))] := hl
    refine lv_iload_n hx hb d_O_computeSum_57 rfl (lv_at hl 1 rfl) ?_
    refine lv_if_ne (tgt := 74) hx hb d_O_computeSum_58 (by decide) (fun c_58 => ?_) (fun c_58 => ?_)
    · skip
      have c_58 : (g_O_hasOppositeSigns n1 n2) = true := b2i_nz c_58
      refine lv_aload_n hx hb d_O_computeSum_74 rfl (lv_at hl 0 rfl) ?_
      refine va_get (D := (dC, dI)) (ci := 0) (v := .ref a4) (C := R_O) (T := F_O) (N := 9) hx hb htA in_O hown hK hP 0 rfl rfl 7 (by decide) (htA _ k_135) (fun _ h9 => h9) rfl d_O_computeSum_75 ?_
      refine lv_aload_n hx hb d_O_computeSum_78 rfl (lv_at hl 0 rfl) ?_
      refine va_get (D := (dC, dI)) (ci := 0) (v := .ref a5) (C := R_O) (T := F_O) (N := 9) hx hb htA in_O hown hK hP 0 rfl rfl 8 (by decide) (htA _ k_136) (fun _ h9 => h9) rfl d_O_computeSum_79 ?_
      have hPc := hP.sub (ws' := [(a4, .inr (2, [.long j57_1, .long j57_2, .int j57_3])), (a5, .inr (2, [.long j57_4, .long j57_5, .int j57_6]))]) [3, 4] rfl
      have hDc := hD.sub (ws' := [(a4, .inr (2, [.long j57_1, .long j57_2, .int j57_3])), (a5, .inr (2, [.long j57_4, .long j57_5, .int j57_6]))]) [3, 4] (by decide) rfl
      have hKc := hK.sub (tys' := []) [] rfl
      have hFc := va_free (wc := [(a4, .inr (2, [.long j57_1, .long j57_2, .int j57_3])), (a5, .inr (2, [.long j57_4, .long j57_5, .int j57_6]))]) hD hS hA [3, 4] rfl
      refine cc_v (va_runVN (As := [.ref a5]) (rest := []) ⟨hx, hb, hml, hown, htA⟩ (c_S_subtract l dC dI a4 a5 H.size j57_1 j57_2 j57_3 j57_4 j57_5 j57_6) ⟨va_cnB 1 htA (gi_code k_57) rfl rfl rfl (hnw _ n_15) (htA _ k_36) (by decide +kernel) ⟨Nat.le_of_ble_eq_true rfl, Nat.le_of_ble_eq_true rfl⟩, htA _ k_141, htA _ k_142⟩ (pre_V hnw hPc hKc hDc (ci := 2) (q0 := 0) rfl rfl) rfl rfl hl.1 rfl (lv_room (Nat.le_of_ble_eq_true rfl)) d_O_computeSum_82 ⟨Nat.le_of_ble_eq_true rfl, Nat.le_of_ble_eq_true rfl⟩) hS hFc hP hD [3, 4] [0, 1, 2] (wr := [(aO, .inr (0, [.ref aT, .ref aF, .int cw, .int ts, .ref a1, .ref a2, .ref a3, .ref a4, .ref a5])), (a1, .inr (1, [.int (b2i n1), .int p1, .long f1])), (a2, .inr (1, [.int (b2i n2), .int p2, .long f2]))]) rfl rfl (by decide) (by decide) (fun H locs hP hD hS => ?_)
      obtain ⟨z82, ez82⟩ : ∃ z, g_S_subtract j57_1 j57_2 j57_3 j57_4 j57_5 j57_6 = z := ⟨_, rfl⟩
      rw [ez82] at hP hD
      have hP : va_P (dC, dI) classes [(aO, .inr (0, [.ref aT, .ref aF, .int cw, .int ts, .ref a1, .ref a2, .ref a3, .ref a4, .ref a5])), (a1, .inr (1, [.int (b2i n1), .int p1, .long f1])), (a2, .inr (1, [.int (b2i n2), .int p2, .long f2])), (a4, .inr (2, [.long z82.1, .long z82.2.1, .int z82.2.2.1])), (a5, .inr (2, [.long z82.2.2.2.1, .long z82.2.2.2.2.1, .int z82.2.2.2.2.2]))] H := hP
      have hD : va_D A [(aO, .inr (0, [.ref aT, .ref aF, .int cw, .int ts, .ref a1, .ref a2, .ref a3, .ref a4, .ref a5])), (a1, .inr (1, [.int (b2i n1), .int p1, .long f1])), (a2, .inr (1, [.int (b2i n2), .int p2, .long f2])), (a4, .inr (2, [.long z82.1, .long z82.2.1, .int z82.2.2.1])), (a5, .inr (2, [.long z82.2.2.2.1, .long z82.2.2.2.2.1, .int z82.2.2.2.2.2]))] := hD
      refine lv_aload_n hx hb d_O_computeSum_85 rfl (lv_at hl 0 rfl) ?_
      refine va_get (D := (dC, dI)) (ci := 0) (v := .ref a4) (C := R_O) (T := F_O) (N := 9) hx hb htA in_O hown hK hP 0 rfl rfl 7 (by decide) (htA _ k_135) (fun _ h9 => h9) rfl d_O_computeSum_86 ?_
      have hPc := hP.sub (ws' := [(a4, .inr (2, [.long z82.1, .long z82.2.1, .int z82.2.2.1]))]) [3] rfl
      have hDc := hD.sub (ws' := [(a4, .inr (2, [.long z82.1, .long z82.2.1, .int z82.2.2.1]))]) [3] (by decide) rfl
      have hKc := hK.sub (tys' := []) [] rfl
      have hFc := va_free (wc := [(a4, .inr (2, [.long z82.1, .long z82.2.1, .int z82.2.2.1]))]) hD hS hA [3] rfl
      refine cc_i (va_runVN (As := []) (rest := []) ⟨hx, hb, hml, hown, htA⟩ (c_S_isZero l dC dI a4 H.size z82.1 z82.2.1 z82.2.2.1) ⟨va_cnB 0 htA (gi_code k_31) rfl rfl rfl (hnw _ n_16) (htA _ k_36) (by decide +kernel) ⟨Nat.le_of_ble_eq_true rfl, Nat.le_of_ble_eq_true rfl⟩, htA _ k_38, htA _ k_39⟩ (pre_V hnw hPc hKc hDc (ci := 2) (q0 := 0) rfl rfl) rfl rfl hl.1 rfl (lv_room (Nat.le_of_ble_eq_true rfl)) d_O_computeSum_89 ⟨Nat.le_of_ble_eq_true rfl, Nat.le_of_ble_eq_true rfl⟩) hS hFc hP hD [3] [0, 1, 2, 4] (wr := [(aO, .inr (0, [.ref aT, .ref aF, .int cw, .int ts, .ref a1, .ref a2, .ref a3, .ref a4, .ref a5])), (a1, .inr (1, [.int (b2i n1), .int p1, .long f1])), (a2, .inr (1, [.int (b2i n2), .int p2, .long f2])), (a5, .inr (2, [.long z82.2.2.2.1, .long z82.2.2.2.2.1, .int z82.2.2.2.2.2]))]) rfl rfl (by decide) (by decide) (fun H locs hP hD hS => ?_)
      have hP : va_P (dC, dI) classes [(aO, .inr (0, [.ref aT, .ref aF, .int cw, .int ts, .ref a1, .ref a2, .ref a3, .ref a4, .ref a5])), (a1, .inr (1, [.int (b2i n1), .int p1, .long f1])), (a2, .inr (1, [.int (b2i n2), .int p2, .long f2])), (a5, .inr (2, [.long z82.2.2.2.1, .long z82.2.2.2.2.1, .int z82.2.2.2.2.2])), (a4, .inr (2, [.long z82.1, .long z82.2.1, .int z82.2.2.1]))] H := hP
      have hD : va_D A [(aO, .inr (0, [.ref aT, .ref aF, .int cw, .int ts, .ref a1, .ref a2, .ref a3, .ref a4, .ref a5])), (a1, .inr (1, [.int (b2i n1), .int p1, .long f1])), (a2, .inr (1, [.int (b2i n2), .int p2, .long f2])), (a5, .inr (2, [.long z82.2.2.2.1, .long z82.2.2.2.2.1, .int z82.2.2.2.2.2])), (a4, .inr (2, [.long z82.1, .long z82.2.1, .int z82.2.2.1]))] := hD
      refine lv_if_eq (tgt := 111) hx hb d_O_computeSum_92 (by decide) (fun c_92 => ?_) (fun c_92 => ?_)
      · skip
        have c_92 : ¬ (g_S_isZero z82.1 z82.2.1) = true := b2i_z c_92
        refine lv_iload_n hx hb d_O_computeSum_111 rfl (lv_at hl 2 rfl) ?_
        have hE : g_O_computeSum cw n1 p1 f1 n2 p2 f2 hi lo ex hi2 lo2 ex2 = (j57_0, z82.1, z82.2.1, z82.2.2.1, z82.2.2.2.1, z82.2.2.2.2.1, z82.2.2.2.2.2) := by clear hP hD hl hS; subst ez82; subst ej57_6; subst ej57_5; subst ej57_4; subst ej57_3; subst ej57_2; subst ej57_1; subst ej57_0; unfold g_O_computeSum; (try dsimp only); rw [if_pos c_58, if_neg c_92]
        have hP9 : va_P (dC, dI) classes [(aO, .inr (0, [.ref aT, .ref aF, .int cw, .int ts, .ref a1, .ref a2, .ref a3, .ref a4, .ref a5])), (a1, .inr (1, [.int (b2i n1), .int p1, .long f1])), (a2, .inr (1, [.int (b2i n2), .int p2, .long f2])), (a4, .inr (2, [.long ((g_O_computeSum cw n1 p1 f1 n2 p2 f2 hi lo ex hi2 lo2 ex2).2.1), .long ((g_O_computeSum cw n1 p1 f1 n2 p2 f2 hi lo ex hi2 lo2 ex2).2.2.1), .int ((g_O_computeSum cw n1 p1 f1 n2 p2 f2 hi lo ex hi2 lo2 ex2).2.2.2.1)])), (a5, .inr (2, [.long ((g_O_computeSum cw n1 p1 f1 n2 p2 f2 hi lo ex hi2 lo2 ex2).2.2.2.2.1), .long ((g_O_computeSum cw n1 p1 f1 n2 p2 f2 hi lo ex hi2 lo2 ex2).2.2.2.2.2.1), .int ((g_O_computeSum cw n1 p1 f1 n2 p2 f2 hi lo ex hi2 lo2 ex2).2.2.2.2.2.2)]))] H := by rw [hE]; exact hP.sub [0, 1, 2, 4, 3] rfl
        have hD9 : va_D A [(aO, .inr (0, [.ref aT, .ref aF, .int cw, .int ts, .ref a1, .ref a2, .ref a3, .ref a4, .ref a5])), (a1, .inr (1, [.int (b2i n1), .int p1, .long f1])), (a2, .inr (1, [.int (b2i n2), .int p2, .long f2])), (a4, .inr (2, [.long ((g_O_computeSum cw n1 p1 f1 n2 p2 f2 hi lo ex hi2 lo2 ex2).2.1), .long ((g_O_computeSum cw n1 p1 f1 n2 p2 f2 hi lo ex hi2 lo2 ex2).2.2.1), .int ((g_O_computeSum cw n1 p1 f1 n2 p2 f2 hi lo ex hi2 lo2 ex2).2.2.2.1)])), (a5, .inr (2, [.long ((g_O_computeSum cw n1 p1 f1 n2 p2 f2 hi lo ex hi2 lo2 ex2).2.2.2.2.1), .long ((g_O_computeSum cw n1 p1 f1 n2 p2 f2 hi lo ex hi2 lo2 ex2).2.2.2.2.2.1), .int ((g_O_computeSum cw n1 p1 f1 n2 p2 f2 hi lo ex hi2 lo2 ex2).2.2.2.2.2.2)]))] := by rw [hE]; exact hD.sub [0, 1, 2, 4, 3] (by decide) rfl
        exact W.zret (v := (b2i j57_0)) hx hb hr (by first | exact nar_b2i _ | rfl) (fun t ht hW => ⟨⟨(b2i j57_0), (), rfl, by rw [hE], by rw [ht]; exact hP9, hD9⟩, hS.F ht⟩) hS.2.2 d_O_computeSum_112
      · skip
        have c_92 : (g_S_isZero z82.1 z82.2.1) = true := b2i_nz c_92
        refine lv_aload_n hx hb d_O_computeSum_95 rfl (lv_at hl 0 rfl) ?_
        have hPc := hP.sub (ws' := [(aO, .inr (0, [.ref aT, .ref aF, .int cw, .int ts, .ref a1, .ref a2, .ref a3, .ref a4, .ref a5]))]) [0] rfl
        have hDc := hD.sub (ws' := [(aO, .inr (0, [.ref aT, .ref aF, .int cw, .int ts, .ref a1, .ref a2, .ref a3, .ref a4, .ref a5]))]) [0] (by decide) rfl
        have hKc := hK.sub (tys' := []) [] rfl
        have hFc := va_free (wc := [(aO, .inr (0, [.ref aT, .ref aF, .int cw, .int ts, .ref a1, .ref a2, .ref a3, .ref a4, .ref a5]))]) hD hS hA [0] rfl
        refine cc_i (va_runV (As := []) (rest := []) ⟨hx, hb, hml, hown, htA⟩ (c_O_rounding l dC dI aO aT aF a1 a2 a3 a4 a5 H.size cw ts) (cwV 0 htA (gi_V k_143 k_144 k_145 k_90 (gi_code k_99)) rfl rfl rfl (by decide +kernel) ⟨Nat.le_of_ble_eq_true rfl, Nat.le_of_ble_eq_true rfl⟩) (pre_V hnw hPc hKc hDc (ci := 0) (q0 := 0) rfl rfl) rfl rfl hl.1 rfl (lv_room (Nat.le_of_ble_eq_true rfl)) d_O_computeSum_96 ⟨Nat.le_of_ble_eq_true rfl, Nat.le_of_ble_eq_true rfl⟩) hS hFc hP hD [0] [1, 2, 3, 4] (wr := [(a1, .inr (1, [.int (b2i n1), .int p1, .long f1])), (a2, .inr (1, [.int (b2i n2), .int p2, .long f2])), (a5, .inr (2, [.long z82.2.2.2.1, .long z82.2.2.2.2.1, .int z82.2.2.2.2.2])), (a4, .inr (2, [.long z82.1, .long z82.2.1, .int z82.2.2.1]))]) rfl rfl (by decide) (by decide) (fun H locs hP hD hS => ?_)
        have hP : va_P (dC, dI) classes [(a1, .inr (1, [.int (b2i n1), .int p1, .long f1])), (a2, .inr (1, [.int (b2i n2), .int p2, .long f2])), (a5, .inr (2, [.long z82.2.2.2.1, .long z82.2.2.2.2.1, .int z82.2.2.2.2.2])), (a4, .inr (2, [.long z82.1, .long z82.2.1, .int z82.2.2.1])), (aO, .inr (0, [.ref aT, .ref aF, .int cw, .int ts, .ref a1, .ref a2, .ref a3, .ref a4, .ref a5]))] H := hP
        have hD : va_D A [(a1, .inr (1, [.int (b2i n1), .int p1, .long f1])), (a2, .inr (1, [.int (b2i n2), .int p2, .long f2])), (a5, .inr (2, [.long z82.2.2.2.1, .long z82.2.2.2.2.1, .int z82.2.2.2.2.2])), (a4, .inr (2, [.long z82.1, .long z82.2.1, .int z82.2.2.1])), (aO, .inr (0, [.ref aT, .ref aF, .int cw, .int ts, .ref a1, .ref a2, .ref a3, .ref a4, .ref a5]))] := hD
        refine lv_iconst (v := 1) hx hb d_O_computeSum_99 (by decide) ?_
        refine lv_icmp_ne (tgt := 107) hx hb d_O_computeSum_100 (by decide) (fun c_100 => ?_) (fun c_100 => ?_)
        · skip
          refine lv_iconst (v := 0) hx hb d_O_computeSum_107 (by decide) ?_
          refine lv_goto (tgt := 112) hx hb d_O_computeSum_108 (by decide) ?_
          have hE : g_O_computeSum cw n1 p1 f1 n2 p2 f2 hi lo ex hi2 lo2 ex2 = (false, z82.1, z82.2.1, z82.2.2.1, z82.2.2.2.1, z82.2.2.2.2.1, z82.2.2.2.2.2) := by clear hP hD hl hS; subst ez82; subst ej57_6; subst ej57_5; subst ej57_4; subst ej57_3; subst ej57_2; subst ej57_1; subst ej57_0; unfold g_O_computeSum; (try dsimp only); rw [if_pos c_58, if_pos c_92, if_neg c_100]
          have hP9 : va_P (dC, dI) classes [(aO, .inr (0, [.ref aT, .ref aF, .int cw, .int ts, .ref a1, .ref a2, .ref a3, .ref a4, .ref a5])), (a1, .inr (1, [.int (b2i n1), .int p1, .long f1])), (a2, .inr (1, [.int (b2i n2), .int p2, .long f2])), (a4, .inr (2, [.long ((g_O_computeSum cw n1 p1 f1 n2 p2 f2 hi lo ex hi2 lo2 ex2).2.1), .long ((g_O_computeSum cw n1 p1 f1 n2 p2 f2 hi lo ex hi2 lo2 ex2).2.2.1), .int ((g_O_computeSum cw n1 p1 f1 n2 p2 f2 hi lo ex hi2 lo2 ex2).2.2.2.1)])), (a5, .inr (2, [.long ((g_O_computeSum cw n1 p1 f1 n2 p2 f2 hi lo ex hi2 lo2 ex2).2.2.2.2.1), .long ((g_O_computeSum cw n1 p1 f1 n2 p2 f2 hi lo ex hi2 lo2 ex2).2.2.2.2.2.1), .int ((g_O_computeSum cw n1 p1 f1 n2 p2 f2 hi lo ex hi2 lo2 ex2).2.2.2.2.2.2)]))] H := by rw [hE]; exact hP.sub [4, 0, 1, 3, 2] rfl
          have hD9 : va_D A [(aO, .inr (0, [.ref aT, .ref aF, .int cw, .int ts, .ref a1, .ref a2, .ref a3, .ref a4, .ref a5])), (a1, .inr (1, [.int (b2i n1), .int p1, .long f1])), (a2, .inr (1, [.int (b2i n2), .int p2, .long f2])), (a4, .inr (2, [.long ((g_O_computeSum cw n1 p1 f1 n2 p2 f2 hi lo ex hi2 lo2 ex2).2.1), .long ((g_O_computeSum cw n1 p1 f1 n2 p2 f2 hi lo ex hi2 lo2 ex2).2.2.1), .int ((g_O_computeSum cw n1 p1 f1 n2 p2 f2 hi lo ex hi2 lo2 ex2).2.2.2.1)])), (a5, .inr (2, [.long ((g_O_computeSum cw n1 p1 f1 n2 p2 f2 hi lo ex hi2 lo2 ex2).2.2.2.2.1), .long ((g_O_computeSum cw n1 p1 f1 n2 p2 f2 hi lo ex hi2 lo2 ex2).2.2.2.2.2.1), .int ((g_O_computeSum cw n1 p1 f1 n2 p2 f2 hi lo ex hi2 lo2 ex2).2.2.2.2.2.2)]))] := by rw [hE]; exact hD.sub [4, 0, 1, 3, 2] (by decide) rfl
          exact W.zret (v := 0) hx hb hr (by first | exact nar_b2i _ | rfl) (fun t ht hW => ⟨⟨0, (), rfl, by rw [hE]; rfl, by rw [ht]; exact hP9, hD9⟩, hS.F ht⟩) hS.2.2 d_O_computeSum_112
        · skip
          refine lv_iconst (v := 1) hx hb d_O_computeSum_103 (by decide) ?_
          refine lv_goto (tgt := 112) hx hb d_O_computeSum_104 (by decide) ?_
          have hE : g_O_computeSum cw n1 p1 f1 n2 p2 f2 hi lo ex hi2 lo2 ex2 = (true, z82.1, z82.2.1, z82.2.2.1, z82.2.2.2.1, z82.2.2.2.2.1, z82.2.2.2.2.2) := by clear hP hD hl hS; subst ez82; subst ej57_6; subst ej57_5; subst ej57_4; subst ej57_3; subst ej57_2; subst ej57_1; subst ej57_0; unfold g_O_computeSum; (try dsimp only); rw [if_pos c_58, if_pos c_92, if_pos c_100]
          have hP9 : va_P (dC, dI) classes [(aO, .inr (0, [.ref aT, .ref aF, .int cw, .int ts, .ref a1, .ref a2, .ref a3, .ref a4, .ref a5])), (a1, .inr (1, [.int (b2i n1), .int p1, .long f1])), (a2, .inr (1, [.int (b2i n2), .int p2, .long f2])), (a4, .inr (2, [.long ((g_O_computeSum cw n1 p1 f1 n2 p2 f2 hi lo ex hi2 lo2 ex2).2.1), .long ((g_O_computeSum cw n1 p1 f1 n2 p2 f2 hi lo ex hi2 lo2 ex2).2.2.1), .int ((g_O_computeSum cw n1 p1 f1 n2 p2 f2 hi lo ex hi2 lo2 ex2).2.2.2.1)])), (a5, .inr (2, [.long ((g_O_computeSum cw n1 p1 f1 n2 p2 f2 hi lo ex hi2 lo2 ex2).2.2.2.2.1), .long ((g_O_computeSum cw n1 p1 f1 n2 p2 f2 hi lo ex hi2 lo2 ex2).2.2.2.2.2.1), .int ((g_O_computeSum cw n1 p1 f1 n2 p2 f2 hi lo ex hi2 lo2 ex2).2.2.2.2.2.2)]))] H := by rw [hE]; exact hP.sub [4, 0, 1, 3, 2] rfl
          have hD9 : va_D A [(aO, .inr (0, [.ref aT, .ref aF, .int cw, .int ts, .ref a1, .ref a2, .ref a3, .ref a4, .ref a5])), (a1, .inr (1, [.int (b2i n1), .int p1, .long f1])), (a2, .inr (1, [.int (b2i n2), .int p2, .long f2])), (a4, .inr (2, [.long ((g_O_computeSum cw n1 p1 f1 n2 p2 f2 hi lo ex hi2 lo2 ex2).2.1), .long ((g_O_computeSum cw n1 p1 f1 n2 p2 f2 hi lo ex hi2 lo2 ex2).2.2.1), .int ((g_O_computeSum cw n1 p1 f1 n2 p2 f2 hi lo ex hi2 lo2 ex2).2.2.2.1)])), (a5, .inr (2, [.long ((g_O_computeSum cw n1 p1 f1 n2 p2 f2 hi lo ex hi2 lo2 ex2).2.2.2.2.1), .long ((g_O_computeSum cw n1 p1 f1 n2 p2 f2 hi lo ex hi2 lo2 ex2).2.2.2.2.2.1), .int ((g_O_computeSum cw n1 p1 f1 n2 p2 f2 hi lo ex hi2 lo2 ex2).2.2.2.2.2.2)]))] := by rw [hE]; exact hD.sub [4, 0, 1, 3, 2] (by decide) rfl
          exact W.zret (v := 1) hx hb hr (by first | exact nar_b2i _ | rfl) (fun t ht hW => ⟨⟨1, (), rfl, by rw [hE]; rfl, by rw [ht]; exact hP9, hD9⟩, hS.F ht⟩) hS.2.2 d_O_computeSum_112
    · skip
      have c_58 : ¬ (g_O_hasOppositeSigns n1 n2) = true := b2i_z c_58
      refine lv_aload_n hx hb d_O_computeSum_61 rfl (lv_at hl 0 rfl) ?_
      refine va_get (D := (dC, dI)) (ci := 0) (v := .ref a4) (C := R_O) (T := F_O) (N := 9) hx hb htA in_O hown hK hP 0 rfl rfl 7 (by decide) (htA _ k_135) (fun _ h9 => h9) rfl d_O_computeSum_62 ?_
      refine lv_aload_n hx hb d_O_computeSum_65 rfl (lv_at hl 0 rfl) ?_
      refine va_get (D := (dC, dI)) (ci := 0) (v := .ref a5) (C := R_O) (T := F_O) (N := 9) hx hb htA in_O hown hK hP 0 rfl rfl 8 (by decide) (htA _ k_136) (fun _ h9 => h9) rfl d_O_computeSum_66 ?_
      have hPc := hP.sub (ws' := [(a4, .inr (2, [.long j57_1, .long j57_2, .int j57_3])), (a5, .inr (2, [.long j57_4, .long j57_5, .int j57_6]))]) [3, 4] rfl
      have hDc := hD.sub (ws' := [(a4, .inr (2, [.long j57_1, .long j57_2, .int j57_3])), (a5, .inr (2, [.long j57_4, .long j57_5, .int j57_6]))]) [3, 4] (by decide) rfl
      have hKc := hK.sub (tys' := []) [] rfl
      have hFc := va_free (wc := [(a4, .inr (2, [.long j57_1, .long j57_2, .int j57_3])), (a5, .inr (2, [.long j57_4, .long j57_5, .int j57_6]))]) hD hS hA [3, 4] rfl
      refine cc_v (va_runVN (As := [.ref a5]) (rest := []) ⟨hx, hb, hml, hown, htA⟩ (c_S_add l dC dI a4 a5 H.size j57_1 j57_2 j57_3 j57_4 j57_5 j57_6) ⟨va_cnB 1 htA (gi_code k_56) rfl rfl rfl (hnw _ n_17) (htA _ k_36) (by decide +kernel) ⟨Nat.le_of_ble_eq_true rfl, Nat.le_of_ble_eq_true rfl⟩, htA _ k_146, htA _ k_147⟩ (pre_V hnw hPc hKc hDc (ci := 2) (q0 := 0) rfl rfl) rfl rfl hl.1 rfl (lv_room (Nat.le_of_ble_eq_true rfl)) d_O_computeSum_69 ⟨Nat.le_of_ble_eq_true rfl, Nat.le_of_ble_eq_true rfl⟩) hS hFc hP hD [3, 4] [0, 1, 2] (wr := [(aO, .inr (0, [.ref aT, .ref aF, .int cw, .int ts, .ref a1, .ref a2, .ref a3, .ref a4, .ref a5])), (a1, .inr (1, [.int (b2i n1), .int p1, .long f1])), (a2, .inr (1, [.int (b2i n2), .int p2, .long f2]))]) rfl rfl (by decide) (by decide) (fun H locs hP hD hS => ?_)
      obtain ⟨z69, ez69⟩ : ∃ z, g_S_add j57_1 j57_2 j57_3 j57_4 j57_5 j57_6 = z := ⟨_, rfl⟩
      rw [ez69] at hP hD
      have hP : va_P (dC, dI) classes [(aO, .inr (0, [.ref aT, .ref aF, .int cw, .int ts, .ref a1, .ref a2, .ref a3, .ref a4, .ref a5])), (a1, .inr (1, [.int (b2i n1), .int p1, .long f1])), (a2, .inr (1, [.int (b2i n2), .int p2, .long f2])), (a4, .inr (2, [.long z69.1, .long z69.2.1, .int z69.2.2.1])), (a5, .inr (2, [.long z69.2.2.2.1, .long z69.2.2.2.2.1, .int z69.2.2.2.2.2]))] H := hP
      have hD : va_D A [(aO, .inr (0, [.ref aT, .ref aF, .int cw, .int ts, .ref a1, .ref a2, .ref a3, .ref a4, .ref a5])), (a1, .inr (1, [.int (b2i n1), .int p1, .long f1])), (a2, .inr (1, [.int (b2i n2), .int p2, .long f2])), (a4, .inr (2, [.long z69.1, .long z69.2.1, .int z69.2.2.1])), (a5, .inr (2, [.long z69.2.2.2.1, .long z69.2.2.2.2.1, .int z69.2.2.2.2.2]))] := hD
      refine lv_iload_n hx hb d_O_computeSum_72 rfl (lv_at hl 2 rfl) ?_
      have hE : g_O_computeSum cw n1 p1 f1 n2 p2 f2 hi lo ex hi2 lo2 ex2 = (j57_0, z69.1, z69.2.1, z69.2.2.1, z69.2.2.2.1, z69.2.2.2.2.1, z69.2.2.2.2.2) := by clear hP hD hl hS; subst ez69; subst ej57_6; subst ej57_5; subst ej57_4; subst ej57_3; subst ej57_2; subst ej57_1; subst ej57_0; unfold g_O_computeSum; (try dsimp only); rw [if_neg c_58]
      have hP9 : va_P (dC, dI) classes [(aO, .inr (0, [.ref aT, .ref aF, .int cw, .int ts, .ref a1, .ref a2, .ref a3, .ref a4, .ref a5])), (a1, .inr (1, [.int (b2i n1), .int p1, .long f1])), (a2, .inr (1, [.int (b2i n2), .int p2, .long f2])), (a4, .inr (2, [.long ((g_O_computeSum cw n1 p1 f1 n2 p2 f2 hi lo ex hi2 lo2 ex2).2.1), .long ((g_O_computeSum cw n1 p1 f1 n2 p2 f2 hi lo ex hi2 lo2 ex2).2.2.1), .int ((g_O_computeSum cw n1 p1 f1 n2 p2 f2 hi lo ex hi2 lo2 ex2).2.2.2.1)])), (a5, .inr (2, [.long ((g_O_computeSum cw n1 p1 f1 n2 p2 f2 hi lo ex hi2 lo2 ex2).2.2.2.2.1), .long ((g_O_computeSum cw n1 p1 f1 n2 p2 f2 hi lo ex hi2 lo2 ex2).2.2.2.2.2.1), .int ((g_O_computeSum cw n1 p1 f1 n2 p2 f2 hi lo ex hi2 lo2 ex2).2.2.2.2.2.2)]))] H := by rw [hE]; exact hP.sub [0, 1, 2, 3, 4] rfl
      have hD9 : va_D A [(aO, .inr (0, [.ref aT, .ref aF, .int cw, .int ts, .ref a1, .ref a2, .ref a3, .ref a4, .ref a5])), (a1, .inr (1, [.int (b2i n1), .int p1, .long f1])), (a2, .inr (1, [.int (b2i n2), .int p2, .long f2])), (a4, .inr (2, [.long ((g_O_computeSum cw n1 p1 f1 n2 p2 f2 hi lo ex hi2 lo2 ex2).2.1), .long ((g_O_computeSum cw n1 p1 f1 n2 p2 f2 hi lo ex hi2 lo2 ex2).2.2.1), .int ((g_O_computeSum cw n1 p1 f1 n2 p2 f2 hi lo ex hi2 lo2 ex2).2.2.2.1)])), (a5, .inr (2, [.long ((g_O_computeSum cw n1 p1 f1 n2 p2 f2 hi lo ex hi2 lo2 ex2).2.2.2.2.1), .long ((g_O_computeSum cw n1 p1 f1 n2 p2 f2 hi lo ex hi2 lo2 ex2).2.2.2.2.2.1), .int ((g_O_computeSum cw n1 p1 f1 n2 p2 f2 hi lo ex hi2 lo2 ex2).2.2.2.2.2.2)]))] := by rw [hE]; exact hD.sub [0, 1, 2, 3, 4] (by decide) rfl
      exact W.zret (v := (b2i j57_0)) hx hb hr (by first | exact nar_b2i _ | rfl) (fun t ht hW => ⟨⟨(b2i j57_0), (), rfl, by rw [hE], by rw [ht]; exact hP9, hD9⟩, hS.F ht⟩) hS.2.2 d_O_computeSum_73
  · skip
    refine lv_if_eq (tgt := 57) hx hb d_O_computeSum_24 (by decide) (fun c_24 => ?_) (fun c_24 => ?_)
    · skip
      have c_24 : ¬ (g_S_isLessThan hi ex hi2 ex2) = true := b2i_z c_24
      exact J57 (n1, hi, lo, ex, hi2, lo2, ex2) H locs ls ⟨by clear hP hD hl hS; (try dsimp only); rw [if_neg c_24], by clear hP hD hl hS; (try dsimp only); rw [if_neg c_24], by clear hP hD hl hS; (try dsimp only); rw [if_neg c_24], by clear hP hD hl hS; (try dsimp only); rw [if_neg c_24], by clear hP hD hl hS; (try dsimp only); rw [if_neg c_24], by clear hP hD hl hS; (try dsimp only); rw [if_neg c_24], by clear hP hD hl hS; (try dsimp only); rw [if_neg c_24], hP.sub [0, 1, 2, 3, 4] rfl, hD.sub [0, 1, 2, 3, 4] (by decide) rfl, hS, lv_sub hl [2, 1, 0] rfl⟩
    · skip
      have c_24 : (g_S_isLessThan hi ex hi2 ex2) = true := b2i_nz c_24
      refine lv_aload_n hx hb d_O_computeSum_27 rfl (lv_at hl 2 rfl) ?_
      refine va_get (D := (dC, dI)) (ci := 0) (v := .ref a4) (C := R_O) (T := F_O) (N := 9) hx hb htA in_O hown hK hP 0 rfl rfl 7 (by decide) (htA _ k_135) (fun _ h9 => h9) rfl d_O_computeSum_28 ?_
      refine lv_aload_n hx hb d_O_computeSum_31 rfl (lv_at hl 2 rfl) ?_
      refine va_get (D := (dC, dI)) (ci := 0) (v := .ref a2) (C := R_O) (T := F_O) (N := 9) hx hb htA in_O hown hK hP 0 rfl rfl 5 (by decide) (htA _ k_105) (fun _ h9 => h9) rfl d_O_computeSum_32 ?_
      have hPc := hP.sub (ws' := [(a4, .inr (2, [.long hi, .long lo, .int ex])), (a2, .inr (1, [.int (b2i n2), .int p2, .long f2]))]) [3, 2] rfl
      have hDc := hD.sub (ws' := [(a4, .inr (2, [.long hi, .long lo, .int ex])), (a2, .inr (1, [.int (b2i n2), .int p2, .long f2]))]) [3, 2] (by decide) rfl
      have hKc := hK.sub (tys' := []) [] rfl
      have hFc := va_free (wc := [(a4, .inr (2, [.long hi, .long lo, .int ex])), (a2, .inr (1, [.int (b2i n2), .int p2, .long f2]))]) hD hS hA [3, 2] rfl
      refine cc_v (va_runVN (As := [.ref a2]) (rest := []) ⟨hx, hb, hml, hown, htA⟩ (c_S_take l dC dI a4 a2 H.size hi lo ex n2 p2 f2) ⟨va_cnB 1 htA (gi_code k_48) rfl rfl rfl (hnw _ n_14) (htA _ k_36) (by decide +kernel) ⟨Nat.le_of_ble_eq_true rfl, Nat.le_of_ble_eq_true rfl⟩, htA _ k_139, htA _ k_140⟩ (pre_V hnw hPc hKc hDc (ci := 2) (q0 := 0) rfl rfl) rfl rfl hl.1 rfl (lv_room (Nat.le_of_ble_eq_true rfl)) d_O_computeSum_35 ⟨Nat.le_of_ble_eq_true rfl, Nat.le_of_ble_eq_true rfl⟩) hS hFc hP hD [3, 2] [0, 1, 4] (wr := [(aO, .inr (0, [.ref aT, .ref aF, .int cw, .int ts, .ref a1, .ref a2, .ref a3, .ref a4, .ref a5])), (a1, .inr (1, [.int (b2i n1), .int p1, .long f1])), (a5, .inr (2, [.long hi2, .long lo2, .int ex2]))]) rfl rfl (by decide) (by decide) (fun H locs hP hD hS => ?_)
      obtain ⟨z35, ez35⟩ : ∃ z, g_S_take p2 f2 = z := ⟨_, rfl⟩
      rw [ez35] at hP hD
      have hP : va_P (dC, dI) classes [(aO, .inr (0, [.ref aT, .ref aF, .int cw, .int ts, .ref a1, .ref a2, .ref a3, .ref a4, .ref a5])), (a1, .inr (1, [.int (b2i n1), .int p1, .long f1])), (a5, .inr (2, [.long hi2, .long lo2, .int ex2])), (a4, .inr (2, [.long z35.1, .long z35.2.1, .int z35.2.2])), (a2, .inr (1, [.int (b2i n2), .int p2, .long f2]))] H := hP
      have hD : va_D A [(aO, .inr (0, [.ref aT, .ref aF, .int cw, .int ts, .ref a1, .ref a2, .ref a3, .ref a4, .ref a5])), (a1, .inr (1, [.int (b2i n1), .int p1, .long f1])), (a5, .inr (2, [.long hi2, .long lo2, .int ex2])), (a4, .inr (2, [.long z35.1, .long z35.2.1, .int z35.2.2])), (a2, .inr (1, [.int (b2i n2), .int p2, .long f2]))] := hD
      refine lv_aload_n hx hb d_O_computeSum_38 rfl (lv_at hl 2 rfl) ?_
      refine va_get (D := (dC, dI)) (ci := 0) (v := .ref a5) (C := R_O) (T := F_O) (N := 9) hx hb htA in_O hown hK hP 0 rfl rfl 8 (by decide) (htA _ k_136) (fun _ h9 => h9) rfl d_O_computeSum_39 ?_
      refine lv_aload_n hx hb d_O_computeSum_42 rfl (lv_at hl 2 rfl) ?_
      refine va_get (D := (dC, dI)) (ci := 0) (v := .ref a1) (C := R_O) (T := F_O) (N := 9) hx hb htA in_O hown hK hP 0 rfl rfl 4 (by decide) (htA _ k_104) (fun _ h9 => h9) rfl d_O_computeSum_43 ?_
      have hPc := hP.sub (ws' := [(a5, .inr (2, [.long hi2, .long lo2, .int ex2])), (a1, .inr (1, [.int (b2i n1), .int p1, .long f1]))]) [2, 1] rfl
      have hDc := hD.sub (ws' := [(a5, .inr (2, [.long hi2, .long lo2, .int ex2])), (a1, .inr (1, [.int (b2i n1), .int p1, .long f1]))]) [2, 1] (by decide) rfl
      have hKc := hK.sub (tys' := []) [] rfl
      have hFc := va_free (wc := [(a5, .inr (2, [.long hi2, .long lo2, .int ex2])), (a1, .inr (1, [.int (b2i n1), .int p1, .long f1]))]) hD hS hA [2, 1] rfl
      refine cc_v (va_runVN (As := [.ref a1]) (rest := []) ⟨hx, hb, hml, hown, htA⟩ (c_S_take l dC dI a5 a1 H.size hi2 lo2 ex2 n1 p1 f1) ⟨va_cnB 1 htA (gi_code k_48) rfl rfl rfl (hnw _ n_14) (htA _ k_36) (by decide +kernel) ⟨Nat.le_of_ble_eq_true rfl, Nat.le_of_ble_eq_true rfl⟩, htA _ k_139, htA _ k_140⟩ (pre_V hnw hPc hKc hDc (ci := 2) (q0 := 0) rfl rfl) rfl rfl hl.1 rfl (lv_room (Nat.le_of_ble_eq_true rfl)) d_O_computeSum_46 ⟨Nat.le_of_ble_eq_true rfl, Nat.le_of_ble_eq_true rfl⟩) hS hFc hP hD [2, 1] [0, 3, 4] (wr := [(aO, .inr (0, [.ref aT, .ref aF, .int cw, .int ts, .ref a1, .ref a2, .ref a3, .ref a4, .ref a5])), (a4, .inr (2, [.long z35.1, .long z35.2.1, .int z35.2.2])), (a2, .inr (1, [.int (b2i n2), .int p2, .long f2]))]) rfl rfl (by decide) (by decide) (fun H locs hP hD hS => ?_)
      obtain ⟨z46, ez46⟩ : ∃ z, g_S_take p1 f1 = z := ⟨_, rfl⟩
      rw [ez46] at hP hD
      have hP : va_P (dC, dI) classes [(aO, .inr (0, [.ref aT, .ref aF, .int cw, .int ts, .ref a1, .ref a2, .ref a3, .ref a4, .ref a5])), (a4, .inr (2, [.long z35.1, .long z35.2.1, .int z35.2.2])), (a2, .inr (1, [.int (b2i n2), .int p2, .long f2])), (a5, .inr (2, [.long z46.1, .long z46.2.1, .int z46.2.2])), (a1, .inr (1, [.int (b2i n1), .int p1, .long f1]))] H := hP
      have hD : va_D A [(aO, .inr (0, [.ref aT, .ref aF, .int cw, .int ts, .ref a1, .ref a2, .ref a3, .ref a4, .ref a5])), (a4, .inr (2, [.long z35.1, .long z35.2.1, .int z35.2.2])), (a2, .inr (1, [.int (b2i n2), .int p2, .long f2])), (a5, .inr (2, [.long z46.1, .long z46.2.1, .int z46.2.2])), (a1, .inr (1, [.int (b2i n1), .int p1, .long f1]))] := hD
      refine lv_aload_n hx hb d_O_computeSum_49 rfl (lv_at hl 2 rfl) ?_
      refine va_get (D := (dC, dI)) (ci := 0) (v := .ref a2) (C := R_O) (T := F_O) (N := 9) hx hb htA in_O hown hK hP 0 rfl rfl 5 (by decide) (htA _ k_105) (fun _ h9 => h9) rfl d_O_computeSum_50 ?_
      refine va_getN (D := (dC, dI)) (ci := 1) (v := .int (b2i n2)) (C := R_R) (T := F_R) (N := 3) hx hb htA in_R hown hK hP 2 rfl rfl 0 (by decide) (va_Nw.use rfl (hnw _ n_5)) (fun _ h9 => h9) rfl d_O_computeSum_53 ?_
      refine lv_istore_n (lv' := [(2, .int (b2i n2)), (1, .int (b2i (g_O_hasOppositeSigns n1 n2))), (0, .ref aO)]) hx hb d_O_computeSum_56 rfl hl (by decide) rfl (fun ls hl => ?_)
      exact J57 (n2, z35.1, z35.2.1, z35.2.2, z46.1, z46.2.1, z46.2.2) H locs ls ⟨by clear hP hD hl hS; subst ez46; subst ez35; (try dsimp only); rw [if_pos c_24], by clear hP hD hl hS; subst ez46; subst ez35; (try dsimp only); rw [if_pos c_24], by clear hP hD hl hS; subst ez46; subst ez35; (try dsimp only); rw [if_pos c_24], by clear hP hD hl hS; subst ez46; subst ez35; (try dsimp only); rw [if_pos c_24], by clear hP hD hl hS; subst ez46; subst ez35; (try dsimp only); rw [if_pos c_24], by clear hP hD hl hS; subst ez46; subst ez35; (try dsimp only); rw [if_pos c_24], by clear hP hD hl hS; subst ez46; subst ez35; (try dsimp only); rw [if_pos c_24], hP.sub [0, 4, 2, 1, 3] rfl, hD.sub [0, 4, 2, 1, 3] (by decide) rfl, hS, lv_sub hl [2, 1, 0] rfl⟩
theorem d_O_computeExactly_0 : decode b_O_computeExactly 0 = .ok (.aload_n 0, 1) := by decide +kernel
theorem d_O_computeExactly_1 : decode b_O_computeExactly 1 = .ok (.getfield 40, 3) := by decide +kernel
theorem d_O_computeExactly_4 : decode b_O_computeExactly 4 = .ok (.aload_n 0, 1) := by decide +kernel
theorem d_O_computeExactly_5 : decode b_O_computeExactly 5 = .ok (.getfield 27, 3) := by decide +kernel
theorem d_O_computeExactly_8 : decode b_O_computeExactly 8 = .ok (.invokevirtual 170, 3) := by decide +kernel
theorem d_O_computeExactly_11 : decode b_O_computeExactly 11 = .ok (.aload_n 0, 1) := by decide +kernel
theorem d_O_computeExactly_12 : decode b_O_computeExactly 12 = .ok (.getfield 44, 3) := by decide +kernel
theorem d_O_computeExactly_15 : decode b_O_computeExactly 15 = .ok (.aload_n 0, 1) := by decide +kernel
theorem d_O_computeExactly_16 : decode b_O_computeExactly 16 = .ok (.getfield 31, 3) := by decide +kernel
theorem d_O_computeExactly_19 : decode b_O_computeExactly 19 = .ok (.invokevirtual 170, 3) := by decide +kernel
theorem d_O_computeExactly_22 : decode b_O_computeExactly 22 = .ok (.iload_n 1, 1) := by decide +kernel
theorem d_O_computeExactly_23 : decode b_O_computeExactly 23 = .ok (.invokestatic 161, 3) := by decide +kernel
theorem d_O_computeExactly_26 : decode b_O_computeExactly 26 = .ok (.ifCond .eq 8, 3) := by decide +kernel
theorem d_O_computeExactly_34 : decode b_O_computeExactly 34 = .ok (.iload_n 1, 1) := by decide +kernel
theorem d_O_computeExactly_35 : decode b_O_computeExactly 35 = .ok (.bipush 6, 2) := by decide +kernel
theorem d_O_computeExactly_37 : decode b_O_computeExactly 37 = .ok (.if_icmp .ne 18, 3) := by decide +kernel
theorem d_O_computeExactly_55 : decode b_O_computeExactly 55 = .ok (.iload_n 1, 1) := by decide +kernel
theorem d_O_computeExactly_56 : decode b_O_computeExactly 56 = .ok (.iconst 3, 1) := by decide +kernel
theorem d_O_computeExactly_57 : decode b_O_computeExactly 57 = .ok (.if_icmp .ne 17, 3) := by decide +kernel
theorem d_O_computeExactly_74 : decode b_O_computeExactly 74 = .ok (.aload_n 0, 1) := by decide +kernel
theorem d_O_computeExactly_75 : decode b_O_computeExactly 75 = .ok (.getfield 40, 3) := by decide +kernel
theorem d_O_computeExactly_78 : decode b_O_computeExactly 78 = .ok (.aload_n 0, 1) := by decide +kernel
theorem d_O_computeExactly_79 : decode b_O_computeExactly 79 = .ok (.getfield 44, 3) := by decide +kernel
theorem d_O_computeExactly_82 : decode b_O_computeExactly 82 = .ok (.invokevirtual 183, 3) := by decide +kernel
theorem d_O_computeExactly_85 : decode b_O_computeExactly 85 = .ok (.aload_n 0, 1) := by decide +kernel
theorem d_O_computeExactly_86 : decode b_O_computeExactly 86 = .ok (.invokevirtual 133, 3) := by decide +kernel
theorem d_O_computeExactly_89 : decode b_O_computeExactly 89 = .ok (.ireturn, 1) := by decide +kernel
theorem d_O_computeExactly_60 : decode b_O_computeExactly 60 = .ok (.aload_n 0, 1) := by decide +kernel
theorem d_O_computeExactly_61 : decode b_O_computeExactly 61 = .ok (.getfield 40, 3) := by decide +kernel
theorem d_O_computeExactly_64 : decode b_O_computeExactly 64 = .ok (.aload_n 0, 1) := by decide +kernel
theorem d_O_computeExactly_65 : decode b_O_computeExactly 65 = .ok (.getfield 44, 3) := by decide +kernel
theorem d_O_computeExactly_68 : decode b_O_computeExactly 68 = .ok (.invokevirtual 179, 3) := by decide +kernel
theorem d_O_computeExactly_71 : decode b_O_computeExactly 71 = .ok (.goto 14, 3) := by decide +kernel
theorem d_O_computeExactly_40 : decode b_O_computeExactly 40 = .ok (.aload_n 0, 1) := by decide +kernel
theorem d_O_computeExactly_41 : decode b_O_computeExactly 41 = .ok (.getfield 40, 3) := by decide +kernel
theorem d_O_computeExactly_44 : decode b_O_computeExactly 44 = .ok (.invokevirtual 176, 3) := by decide +kernel
theorem d_O_computeExactly_47 : decode b_O_computeExactly 47 = .ok (.aload_n 0, 1) := by decide +kernel
theorem d_O_computeExactly_48 : decode b_O_computeExactly 48 = .ok (.getfield 27, 3) := by decide +kernel
theorem d_O_computeExactly_51 : decode b_O_computeExactly 51 = .ok (.getfield 108, 3) := by decide +kernel
theorem d_O_computeExactly_54 : decode b_O_computeExactly 54 = .ok (.ireturn, 1) := by decide +kernel
theorem d_O_computeExactly_29 : decode b_O_computeExactly 29 = .ok (.aload_n 0, 1) := by decide +kernel
theorem d_O_computeExactly_30 : decode b_O_computeExactly 30 = .ok (.invokevirtual 173, 3) := by decide +kernel
theorem d_O_computeExactly_33 : decode b_O_computeExactly 33 = .ok (.ireturn, 1) := by decide +kernel
set_option maxHeartbeats 4000000 in
set_option maxRecDepth 100000 in
theorem c_O_computeExactly (l : Launch) (dC : Nat → ClassId) (dI : Nat → Nat → Nat) (aO : Nat) (a1 : Nat) (a2 : Nat) (a4 : Nat) (a5 : Nat) (aT : Nat) (aF : Nat) (a3 : Nat) (sz : Nat) (cw : Int32) (ts : Int32) (n1 : Bool) (p1 : Int32) (f1 : Int64) (n2 : Bool) (p2 : Int32) (f2 : Int64) (hi : Int64) (lo : Int64) (ex : Int32) (hi2 : Int64) (lo2 : Int64) (ex2 : Int32) (iop : Int32) : Met l y_O_computeExactly w_O_computeExactly ({ frames := 4, cells := 0, slots := 0, locals := 104 }) (cPc (dC, dI) [] [.ref aO, .int iop] [(aO, .inr (0, [.ref aT, .ref aF, .int cw, .int ts, .ref a1, .ref a2, .ref a3, .ref a4, .ref a5])), (a1, .inr (1, [.int (b2i n1), .int p1, .long f1])), (a2, .inr (1, [.int (b2i n2), .int p2, .long f2])), (a4, .inr (2, [.long hi, .long lo, .int ex])), (a5, .inr (2, [.long hi2, .long lo2, .int ex2]))] sz) (va_Qi (fun (r : Int32) (_ : Unit) => r = b2i ((g_O_computeExactly cw n1 p1 f1 n2 p2 f2 iop).1)) (fun _ t => va_P (dC, dI) classes [(aO, .inr (0, [.ref aT, .ref aF, .int cw, .int ts, .ref a1, .ref a2, .ref a3, .ref a4, .ref a5])), (a1, .inr (1, [.int (b2i n1), .int p1, .long f1])), (a2, .inr (1, [.int (b2i n2), .int p2, .long f2])), (a4, .inr (2, [.long ((g_O_computeExactly cw n1 p1 f1 n2 p2 f2 iop).2.1), .long ((g_O_computeExactly cw n1 p1 f1 n2 p2 f2 iop).2.2.1), .int ((g_O_computeExactly cw n1 p1 f1 n2 p2 f2 iop).2.2.2.1)])), (a5, .inr (2, [.long ((g_O_computeExactly cw n1 p1 f1 n2 p2 f2 iop).2.2.2.2.1), .long ((g_O_computeExactly cw n1 p1 f1 n2 p2 f2 iop).2.2.2.2.2.1), .int ((g_O_computeExactly cw n1 p1 f1 n2 p2 f2 iop).2.2.2.2.2.2)]))] t.heap ∧ va_D (va_A [(aO, .inr (0, [.ref aT, .ref aF, .int cw, .int ts, .ref a1, .ref a2, .ref a3, .ref a4, .ref a5])), (a1, .inr (1, [.int (b2i n1), .int p1, .long f1])), (a2, .inr (1, [.int (b2i n2), .int p2, .long f2])), (a4, .inr (2, [.long hi, .long lo, .int ex])), (a5, .inr (2, [.long hi2, .long lo2, .int ex2]))] sz) [(aO, .inr (0, [.ref aT, .ref aF, .int cw, .int ts, .ref a1, .ref a2, .ref a3, .ref a4, .ref a5])), (a1, .inr (1, [.int (b2i n1), .int p1, .long f1])), (a2, .inr (1, [.int (b2i n2), .int p2, .long f2])), (a4, .inr (2, [.long ((g_O_computeExactly cw n1 p1 f1 n2 p2 f2 iop).2.1), .long ((g_O_computeExactly cw n1 p1 f1 n2 p2 f2 iop).2.2.1), .int ((g_O_computeExactly cw n1 p1 f1 n2 p2 f2 iop).2.2.2.1)])), (a5, .inr (2, [.long ((g_O_computeExactly cw n1 p1 f1 n2 p2 f2 iop).2.2.2.2.1), .long ((g_O_computeExactly cw n1 p1 f1 n2 p2 f2 iop).2.2.2.2.2.1), .int ((g_O_computeExactly cw n1 p1 f1 n2 p2 f2 iop).2.2.2.2.2.2)]))]) (va_A [(aO, .inr (0, [.ref aT, .ref aF, .int cw, .int ts, .ref a1, .ref a2, .ref a3, .ref a4, .ref a5])), (a1, .inr (1, [.int (b2i n1), .int p1, .long f1])), (a2, .inr (1, [.int (b2i n2), .int p2, .long f2])), (a4, .inr (2, [.long hi, .long lo, .int ex])), (a5, .inr (2, [.long hi2, .long lo2, .int ex2]))] sz)) 0 0 (va_A [(aO, .inr (0, [.ref aT, .ref aF, .int cw, .int ts, .ref a1, .ref a2, .ref a3, .ref a4, .ref a5])), (a1, .inr (1, [.int (b2i n1), .int p1, .long f1])), (a2, .inr (1, [.int (b2i n2), .int p2, .long f2])), (a4, .inr (2, [.long hi, .long lo, .int ex])), (a5, .inr (2, [.long hi2, .long lo2, .int ex2]))] sz) := by
  refine Met.ofW (cc := b_O_computeExactly) (maxL := 2) (ret := (some .boolean)) (by decide) rfl ?_
  intro p e s m args below meth c s₁ B hml hv
  obtain ⟨rfl, hsz, hP, hK, hD0, hnw⟩ := hv
  have hx := B.exec
  have hb := B.bytes
  have hr := B.returns
  have hts := atoms_spec (ws := w_O_computeExactly) B.pre
  have htA : ∀ w ∈ wAll, w.before _ s = true := fun w h => hts w (List.mem_cons_of_mem _ h)
  have hown : s.vm.findClass R_O = some m.cls := findClass_of_methodNamed B.named
  have hlocks := B.notSynchronized
  subst hsz
  have hD := hD0.self (sz := s.heap.size)
  generalize hAe : va_A [(aO, .inr (0, [.ref aT, .ref aF, .int cw, .int ts, .ref a1, .ref a2, .ref a3, .ref a4, .ref a5])), (a1, .inr (1, [.int (b2i n1), .int p1, .long f1])), (a2, .inr (1, [.int (b2i n2), .int p2, .long f2])), (a4, .inr (2, [.long hi, .long lo, .int ex])), (a5, .inr (2, [.long hi2, .long lo2, .int ex2]))] s.heap.size = A at hD ⊢
  have hA : ∀ q : Nat, s.heap.size ≤ q → A q := fun q h => by rw [← hAe]; exact Or.inr h
  have hS : va_S A s.heap s.heap [] := va_S.rf
  have hP : va_P (dC, dI) classes [(aO, .inr (0, [.ref aT, .ref aF, .int cw, .int ts, .ref a1, .ref a2, .ref a3, .ref a4, .ref a5])), (a1, .inr (1, [.int (b2i n1), .int p1, .long f1])), (a2, .inr (1, [.int (b2i n2), .int p2, .long f2])), (a4, .inr (2, [.long hi, .long lo, .int ex])), (a5, .inr (2, [.long hi2, .long lo2, .int ex2]))] s.heap := hP
  obtain ⟨H, eH⟩ : ∃ z, z = s.heap := ⟨_, rfl⟩
  rw [← eH] at hP
  have hS : va_S A s.heap H [] := by rw [eH]; exact hS
  rw [← eH]
  generalize ([] : List Loc) = locs at hS ⊢
  have hl := lv_entry ([.ref aO, .int iop]) (n := 2) (Nat.le_of_ble_eq_true rfl)
  rw [lg_entry_eq]
  generalize (lg_sl ([.ref aO, .int iop]) ++ List.replicate (2 - (lg_sl ([.ref aO, .int iop])).length) Slot.unset).toArray = ls at hl ⊢
  have hl : lv_has ls 2 [(0, .ref aO), (1, .int iop)] := hl
  refine lv_aload_n hx hb d_O_computeExactly_0 rfl (lv_at hl 0 rfl) ?_
  refine va_get (D := (dC, dI)) (ci := 0) (v := .ref a4) (C := R_O) (T := F_O) (N := 9) hx hb htA in_O hown hK hP 0 rfl rfl 7 (by decide) (htA _ k_135) (fun _ h9 => h9) rfl d_O_computeExactly_1 ?_
  refine lv_aload_n hx hb d_O_computeExactly_4 rfl (lv_at hl 0 rfl) ?_
  refine va_get (D := (dC, dI)) (ci := 0) (v := .ref a1) (C := R_O) (T := F_O) (N := 9) hx hb htA in_O hown hK hP 0 rfl rfl 4 (by decide) (htA _ k_104) (fun _ h9 => h9) rfl d_O_computeExactly_5 ?_
  have hPc := hP.sub (ws' := [(a4, .inr (2, [.long hi, .long lo, .int ex])), (a1, .inr (1, [.int (b2i n1), .int p1, .long f1]))]) [3, 1] rfl
  have hDc := hD.sub (ws' := [(a4, .inr (2, [.long hi, .long lo, .int ex])), (a1, .inr (1, [.int (b2i n1), .int p1, .long f1]))]) [3, 1] (by decide) rfl
  have hKc := hK.sub (tys' := []) [] rfl
  have hFc := va_free (wc := [(a4, .inr (2, [.long hi, .long lo, .int ex])), (a1, .inr (1, [.int (b2i n1), .int p1, .long f1]))]) hD hS hA [3, 1] rfl
  refine cc_v (va_runVN (As := [.ref a1]) (rest := []) ⟨hx, hb, hml, hown, htA⟩ (c_S_take l dC dI a4 a1 H.size hi lo ex n1 p1 f1) ⟨va_cnB 1 htA (gi_code k_48) rfl rfl rfl (hnw _ n_14) (htA _ k_36) (by decide +kernel) ⟨Nat.le_of_ble_eq_true rfl, Nat.le_of_ble_eq_true rfl⟩, htA _ k_139, htA _ k_140⟩ (pre_V hnw hPc hKc hDc (ci := 2) (q0 := 0) rfl rfl) rfl rfl hl.1 rfl (lv_room (Nat.le_of_ble_eq_true rfl)) d_O_computeExactly_8 ⟨Nat.le_of_ble_eq_true rfl, Nat.le_of_ble_eq_true rfl⟩) hS hFc hP hD [3, 1] [0, 2, 4] (wr := [(aO, .inr (0, [.ref aT, .ref aF, .int cw, .int ts, .ref a1, .ref a2, .ref a3, .ref a4, .ref a5])), (a2, .inr (1, [.int (b2i n2), .int p2, .long f2])), (a5, .inr (2, [.long hi2, .long lo2, .int ex2]))]) rfl rfl (by decide) (by decide) (fun H locs hP hD hS => ?_)
  obtain ⟨z8, ez8⟩ : ∃ z, g_S_take p1 f1 = z := ⟨_, rfl⟩
  rw [ez8] at hP hD
  have hP : va_P (dC, dI) classes [(aO, .inr (0, [.ref aT, .ref aF, .int cw, .int ts, .ref a1, .ref a2, .ref a3, .ref a4, .ref a5])), (a2, .inr (1, [.int (b2i n2), .int p2, .long f2])), (a5, .inr (2, [.long hi2, .long lo2, .int ex2])), (a4, .inr (2, [.long z8.1, .long z8.2.1, .int z8.2.2])), (a1, .inr (1, [.int (b2i n1), .int p1, .long f1]))] H := hP
  have hD : va_D A [(aO, .inr (0, [.ref aT, .ref aF, .int cw, .int ts, .ref a1, .ref a2, .ref a3, .ref a4, .ref a5])), (a2, .inr (1, [.int (b2i n2), .int p2, .long f2])), (a5, .inr (2, [.long hi2, .long lo2, .int ex2])), (a4, .inr (2, [.long z8.1, .long z8.2.1, .int z8.2.2])), (a1, .inr (1, [.int (b2i n1), .int p1, .long f1]))] := hD
  refine lv_aload_n hx hb d_O_computeExactly_11 rfl (lv_at hl 0 rfl) ?_
  refine va_get (D := (dC, dI)) (ci := 0) (v := .ref a5) (C := R_O) (T := F_O) (N := 9) hx hb htA in_O hown hK hP 0 rfl rfl 8 (by decide) (htA _ k_136) (fun _ h9 => h9) rfl d_O_computeExactly_12 ?_
  refine lv_aload_n hx hb d_O_computeExactly_15 rfl (lv_at hl 0 rfl) ?_
  refine va_get (D := (dC, dI)) (ci := 0) (v := .ref a2) (C := R_O) (T := F_O) (N := 9) hx hb htA in_O hown hK hP 0 rfl rfl 5 (by decide) (htA _ k_105) (fun _ h9 => h9) rfl d_O_computeExactly_16 ?_
  have hPc := hP.sub (ws' := [(a5, .inr (2, [.long hi2, .long lo2, .int ex2])), (a2, .inr (1, [.int (b2i n2), .int p2, .long f2]))]) [2, 1] rfl
  have hDc := hD.sub (ws' := [(a5, .inr (2, [.long hi2, .long lo2, .int ex2])), (a2, .inr (1, [.int (b2i n2), .int p2, .long f2]))]) [2, 1] (by decide) rfl
  have hKc := hK.sub (tys' := []) [] rfl
  have hFc := va_free (wc := [(a5, .inr (2, [.long hi2, .long lo2, .int ex2])), (a2, .inr (1, [.int (b2i n2), .int p2, .long f2]))]) hD hS hA [2, 1] rfl
  refine cc_v (va_runVN (As := [.ref a2]) (rest := []) ⟨hx, hb, hml, hown, htA⟩ (c_S_take l dC dI a5 a2 H.size hi2 lo2 ex2 n2 p2 f2) ⟨va_cnB 1 htA (gi_code k_48) rfl rfl rfl (hnw _ n_14) (htA _ k_36) (by decide +kernel) ⟨Nat.le_of_ble_eq_true rfl, Nat.le_of_ble_eq_true rfl⟩, htA _ k_139, htA _ k_140⟩ (pre_V hnw hPc hKc hDc (ci := 2) (q0 := 0) rfl rfl) rfl rfl hl.1 rfl (lv_room (Nat.le_of_ble_eq_true rfl)) d_O_computeExactly_19 ⟨Nat.le_of_ble_eq_true rfl, Nat.le_of_ble_eq_true rfl⟩) hS hFc hP hD [2, 1] [0, 3, 4] (wr := [(aO, .inr (0, [.ref aT, .ref aF, .int cw, .int ts, .ref a1, .ref a2, .ref a3, .ref a4, .ref a5])), (a4, .inr (2, [.long z8.1, .long z8.2.1, .int z8.2.2])), (a1, .inr (1, [.int (b2i n1), .int p1, .long f1]))]) rfl rfl (by decide) (by decide) (fun H locs hP hD hS => ?_)
  obtain ⟨z19, ez19⟩ : ∃ z, g_S_take p2 f2 = z := ⟨_, rfl⟩
  rw [ez19] at hP hD
  have hP : va_P (dC, dI) classes [(aO, .inr (0, [.ref aT, .ref aF, .int cw, .int ts, .ref a1, .ref a2, .ref a3, .ref a4, .ref a5])), (a4, .inr (2, [.long z8.1, .long z8.2.1, .int z8.2.2])), (a1, .inr (1, [.int (b2i n1), .int p1, .long f1])), (a5, .inr (2, [.long z19.1, .long z19.2.1, .int z19.2.2])), (a2, .inr (1, [.int (b2i n2), .int p2, .long f2]))] H := hP
  have hD : va_D A [(aO, .inr (0, [.ref aT, .ref aF, .int cw, .int ts, .ref a1, .ref a2, .ref a3, .ref a4, .ref a5])), (a4, .inr (2, [.long z8.1, .long z8.2.1, .int z8.2.2])), (a1, .inr (1, [.int (b2i n1), .int p1, .long f1])), (a5, .inr (2, [.long z19.1, .long z19.2.1, .int z19.2.2])), (a2, .inr (1, [.int (b2i n2), .int p2, .long f2]))] := hD
  refine lv_iload_n hx hb d_O_computeExactly_22 rfl (lv_at hl 1 rfl) ?_
  have hPc := hP.sub (ws' := []) [] rfl
  have hDc := hD.sub (ws' := []) [] (by decide) rfl
  have hKc := hK.sub (tys' := []) [] rfl
  have hFc := va_free (wc := []) hD hS hA [] rfl
  refine cc_i (va_runS (As := [.int iop]) (rest := []) ⟨hx, hb, hml, hown, htA⟩ (c_O_isSum l dC dI H.size iop) (va_cwS 1 htA (gi_S k_117 k_118 k_90 (gi_code k_93)) rfl rfl rfl (by decide +kernel) ⟨Nat.le_of_ble_eq_true rfl, Nat.le_of_ble_eq_true rfl⟩) (pre_S hnw hPc hKc hDc) rfl rfl hl.1 rfl (lv_room (Nat.le_of_ble_eq_true rfl)) d_O_computeExactly_23 ⟨Nat.le_of_ble_eq_true rfl, Nat.le_of_ble_eq_true rfl⟩) hS hFc hP hD [] [0, 1, 2, 3, 4] (wr := [(aO, .inr (0, [.ref aT, .ref aF, .int cw, .int ts, .ref a1, .ref a2, .ref a3, .ref a4, .ref a5])), (a4, .inr (2, [.long z8.1, .long z8.2.1, .int z8.2.2])), (a1, .inr (1, [.int (b2i n1), .int p1, .long f1])), (a5, .inr (2, [.long z19.1, .long z19.2.1, .int z19.2.2])), (a2, .inr (1, [.int (b2i n2), .int p2, .long f2]))]) rfl rfl (by decide) (by decide) (fun H locs hP hD hS => ?_)
  have hP : va_P (dC, dI) classes [(aO, .inr (0, [.ref aT, .ref aF, .int cw, .int ts, .ref a1, .ref a2, .ref a3, .ref a4, .ref a5])), (a4, .inr (2, [.long z8.1, .long z8.2.1, .int z8.2.2])), (a1, .inr (1, [.int (b2i n1), .int p1, .long f1])), (a5, .inr (2, [.long z19.1, .long z19.2.1, .int z19.2.2])), (a2, .inr (1, [.int (b2i n2), .int p2, .long f2]))] H := hP
  have hD : va_D A [(aO, .inr (0, [.ref aT, .ref aF, .int cw, .int ts, .ref a1, .ref a2, .ref a3, .ref a4, .ref a5])), (a4, .inr (2, [.long z8.1, .long z8.2.1, .int z8.2.2])), (a1, .inr (1, [.int (b2i n1), .int p1, .long f1])), (a5, .inr (2, [.long z19.1, .long z19.2.1, .int z19.2.2])), (a2, .inr (1, [.int (b2i n2), .int p2, .long f2]))] := hD
  refine lv_if_eq (tgt := 34) hx hb d_O_computeExactly_26 (by decide) (fun c_26 => ?_) (fun c_26 => ?_)
  · skip
    have c_26 : ¬ (g_O_isSum iop) = true := b2i_z c_26
    refine lv_iload_n hx hb d_O_computeExactly_34 rfl (lv_at hl 1 rfl) ?_
    refine lv_bipush (v := 6) hx hb d_O_computeExactly_35 (by decide) ?_
    refine lv_icmp_ne (tgt := 55) hx hb d_O_computeExactly_37 (by decide) (fun c_37 => ?_) (fun c_37 => ?_)
    · skip
      refine lv_iload_n hx hb d_O_computeExactly_55 rfl (lv_at hl 1 rfl) ?_
      refine lv_iconst (v := 3) hx hb d_O_computeExactly_56 (by decide) ?_
      refine lv_icmp_ne (tgt := 74) hx hb d_O_computeExactly_57 (by decide) (fun c_57 => ?_) (fun c_57 => ?_)
      · skip
        refine lv_aload_n hx hb d_O_computeExactly_74 rfl (lv_at hl 0 rfl) ?_
        refine va_get (D := (dC, dI)) (ci := 0) (v := .ref a4) (C := R_O) (T := F_O) (N := 9) hx hb htA in_O hown hK hP 0 rfl rfl 7 (by decide) (htA _ k_135) (fun _ h9 => h9) rfl d_O_computeExactly_75 ?_
        refine lv_aload_n hx hb d_O_computeExactly_78 rfl (lv_at hl 0 rfl) ?_
        refine va_get (D := (dC, dI)) (ci := 0) (v := .ref a5) (C := R_O) (T := F_O) (N := 9) hx hb htA in_O hown hK hP 0 rfl rfl 8 (by decide) (htA _ k_136) (fun _ h9 => h9) rfl d_O_computeExactly_79 ?_
        have hPc := hP.sub (ws' := [(a4, .inr (2, [.long z8.1, .long z8.2.1, .int z8.2.2])), (a5, .inr (2, [.long z19.1, .long z19.2.1, .int z19.2.2]))]) [1, 3] rfl
        have hDc := hD.sub (ws' := [(a4, .inr (2, [.long z8.1, .long z8.2.1, .int z8.2.2])), (a5, .inr (2, [.long z19.1, .long z19.2.1, .int z19.2.2]))]) [1, 3] (by decide) rfl
        have hKc := hK.sub (tys' := []) [] rfl
        have hFc := va_free (wc := [(a4, .inr (2, [.long z8.1, .long z8.2.1, .int z8.2.2])), (a5, .inr (2, [.long z19.1, .long z19.2.1, .int z19.2.2]))]) hD hS hA [1, 3] rfl
        refine cc_v (va_runVN (As := [.ref a5]) (rest := []) ⟨hx, hb, hml, hown, htA⟩ (c_S_divide l dC dI a4 a5 H.size z8.1 z8.2.1 z8.2.2 z19.1 z19.2.1 z19.2.2) ⟨va_cnB 1 htA (gi_code k_64) rfl rfl rfl (hnw _ n_18) (htA _ k_36) (by decide +kernel) ⟨Nat.le_of_ble_eq_true rfl, Nat.le_of_ble_eq_true rfl⟩, htA _ k_149, htA _ k_150⟩ (pre_V hnw hPc hKc hDc (ci := 2) (q0 := 0) rfl rfl) rfl rfl hl.1 rfl (lv_room (Nat.le_of_ble_eq_true rfl)) d_O_computeExactly_82 ⟨Nat.le_of_ble_eq_true rfl, Nat.le_of_ble_eq_true rfl⟩) hS hFc hP hD [1, 3] [0, 2, 4] (wr := [(aO, .inr (0, [.ref aT, .ref aF, .int cw, .int ts, .ref a1, .ref a2, .ref a3, .ref a4, .ref a5])), (a1, .inr (1, [.int (b2i n1), .int p1, .long f1])), (a2, .inr (1, [.int (b2i n2), .int p2, .long f2]))]) rfl rfl (by decide) (by decide) (fun H locs hP hD hS => ?_)
        obtain ⟨z82, ez82⟩ : ∃ z, g_S_divide z8.1 z8.2.2 z19.1 z19.2.2 = z := ⟨_, rfl⟩
        rw [ez82] at hP hD
        have hP : va_P (dC, dI) classes [(aO, .inr (0, [.ref aT, .ref aF, .int cw, .int ts, .ref a1, .ref a2, .ref a3, .ref a4, .ref a5])), (a1, .inr (1, [.int (b2i n1), .int p1, .long f1])), (a2, .inr (1, [.int (b2i n2), .int p2, .long f2])), (a4, .inr (2, [.long z82.1, .long z82.2.1, .int z82.2.2])), (a5, .inr (2, [.long z19.1, .long z19.2.1, .int z19.2.2]))] H := hP
        have hD : va_D A [(aO, .inr (0, [.ref aT, .ref aF, .int cw, .int ts, .ref a1, .ref a2, .ref a3, .ref a4, .ref a5])), (a1, .inr (1, [.int (b2i n1), .int p1, .long f1])), (a2, .inr (1, [.int (b2i n2), .int p2, .long f2])), (a4, .inr (2, [.long z82.1, .long z82.2.1, .int z82.2.2])), (a5, .inr (2, [.long z19.1, .long z19.2.1, .int z19.2.2]))] := hD
        refine lv_aload_n hx hb d_O_computeExactly_85 rfl (lv_at hl 0 rfl) ?_
        have hPc := hP.sub (ws' := [(aO, .inr (0, [.ref aT, .ref aF, .int cw, .int ts, .ref a1, .ref a2, .ref a3, .ref a4, .ref a5])), (a1, .inr (1, [.int (b2i n1), .int p1, .long f1])), (a2, .inr (1, [.int (b2i n2), .int p2, .long f2]))]) [0, 1, 2] rfl
        have hDc := hD.sub (ws' := [(aO, .inr (0, [.ref aT, .ref aF, .int cw, .int ts, .ref a1, .ref a2, .ref a3, .ref a4, .ref a5])), (a1, .inr (1, [.int (b2i n1), .int p1, .long f1])), (a2, .inr (1, [.int (b2i n2), .int p2, .long f2]))]) [0, 1, 2] (by decide) rfl
        have hKc := hK.sub (tys' := []) [] rfl
        have hFc := va_free (wc := [(aO, .inr (0, [.ref aT, .ref aF, .int cw, .int ts, .ref a1, .ref a2, .ref a3, .ref a4, .ref a5])), (a1, .inr (1, [.int (b2i n1), .int p1, .long f1])), (a2, .inr (1, [.int (b2i n2), .int p2, .long f2]))]) hD hS hA [0, 1, 2] rfl
        refine cc_i (va_runV (As := []) (rest := []) ⟨hx, hb, hml, hown, htA⟩ (c_O_hasOppositeSigns l dC dI aO a1 a2 aT aF a3 a4 a5 H.size cw ts n1 p1 f1 n2 p2 f2) (cwV 0 htA (gi_V k_119 k_120 k_121 k_90 (gi_code k_106)) rfl rfl rfl (by decide +kernel) ⟨Nat.le_of_ble_eq_true rfl, Nat.le_of_ble_eq_true rfl⟩) (pre_V hnw hPc hKc hDc (ci := 0) (q0 := 0) rfl rfl) rfl rfl hl.1 rfl (lv_room (Nat.le_of_ble_eq_true rfl)) d_O_computeExactly_86 ⟨Nat.le_of_ble_eq_true rfl, Nat.le_of_ble_eq_true rfl⟩) hS hFc hP hD [0, 1, 2] [3, 4] (wr := [(a4, .inr (2, [.long z82.1, .long z82.2.1, .int z82.2.2])), (a5, .inr (2, [.long z19.1, .long z19.2.1, .int z19.2.2]))]) rfl rfl (by decide) (by decide) (fun H locs hP hD hS => ?_)
        have hP : va_P (dC, dI) classes [(a4, .inr (2, [.long z82.1, .long z82.2.1, .int z82.2.2])), (a5, .inr (2, [.long z19.1, .long z19.2.1, .int z19.2.2])), (aO, .inr (0, [.ref aT, .ref aF, .int cw, .int ts, .ref a1, .ref a2, .ref a3, .ref a4, .ref a5])), (a1, .inr (1, [.int (b2i n1), .int p1, .long f1])), (a2, .inr (1, [.int (b2i n2), .int p2, .long f2]))] H := hP
        have hD : va_D A [(a4, .inr (2, [.long z82.1, .long z82.2.1, .int z82.2.2])), (a5, .inr (2, [.long z19.1, .long z19.2.1, .int z19.2.2])), (aO, .inr (0, [.ref aT, .ref aF, .int cw, .int ts, .ref a1, .ref a2, .ref a3, .ref a4, .ref a5])), (a1, .inr (1, [.int (b2i n1), .int p1, .long f1])), (a2, .inr (1, [.int (b2i n2), .int p2, .long f2]))] := hD
        have hE : g_O_computeExactly cw n1 p1 f1 n2 p2 f2 iop = ((g_O_hasOppositeSigns n1 n2), z82.1, z82.2.1, z82.2.2, z19.1, z19.2.1, z19.2.2) := by clear hP hD hl hS; subst ez82; subst ez19; subst ez8; unfold g_O_computeExactly; (try dsimp only); rw [if_neg c_26, if_neg c_37, if_neg c_57]
        have hP9 : va_P (dC, dI) classes [(aO, .inr (0, [.ref aT, .ref aF, .int cw, .int ts, .ref a1, .ref a2, .ref a3, .ref a4, .ref a5])), (a1, .inr (1, [.int (b2i n1), .int p1, .long f1])), (a2, .inr (1, [.int (b2i n2), .int p2, .long f2])), (a4, .inr (2, [.long ((g_O_computeExactly cw n1 p1 f1 n2 p2 f2 iop).2.1), .long ((g_O_computeExactly cw n1 p1 f1 n2 p2 f2 iop).2.2.1), .int ((g_O_computeExactly cw n1 p1 f1 n2 p2 f2 iop).2.2.2.1)])), (a5, .inr (2, [.long ((g_O_computeExactly cw n1 p1 f1 n2 p2 f2 iop).2.2.2.2.1), .long ((g_O_computeExactly cw n1 p1 f1 n2 p2 f2 iop).2.2.2.2.2.1), .int ((g_O_computeExactly cw n1 p1 f1 n2 p2 f2 iop).2.2.2.2.2.2)]))] H := by rw [hE]; exact hP.sub [2, 3, 4, 0, 1] rfl
        have hD9 : va_D A [(aO, .inr (0, [.ref aT, .ref aF, .int cw, .int ts, .ref a1, .ref a2, .ref a3, .ref a4, .ref a5])), (a1, .inr (1, [.int (b2i n1), .int p1, .long f1])), (a2, .inr (1, [.int (b2i n2), .int p2, .long f2])), (a4, .inr (2, [.long ((g_O_computeExactly cw n1 p1 f1 n2 p2 f2 iop).2.1), .long ((g_O_computeExactly cw n1 p1 f1 n2 p2 f2 iop).2.2.1), .int ((g_O_computeExactly cw n1 p1 f1 n2 p2 f2 iop).2.2.2.1)])), (a5, .inr (2, [.long ((g_O_computeExactly cw n1 p1 f1 n2 p2 f2 iop).2.2.2.2.1), .long ((g_O_computeExactly cw n1 p1 f1 n2 p2 f2 iop).2.2.2.2.2.1), .int ((g_O_computeExactly cw n1 p1 f1 n2 p2 f2 iop).2.2.2.2.2.2)]))] := by rw [hE]; exact hD.sub [2, 3, 4, 0, 1] (by decide) rfl
        exact W.zret (v := (b2i (g_O_hasOppositeSigns n1 n2))) hx hb hr (by first | exact nar_b2i _ | rfl) (fun t ht hW => ⟨⟨(b2i (g_O_hasOppositeSigns n1 n2)), (), rfl, by rw [hE], by rw [ht]; exact hP9, hD9⟩, hS.F ht⟩) hS.2.2 d_O_computeExactly_89
      · skip
        refine lv_aload_n hx hb d_O_computeExactly_60 rfl (lv_at hl 0 rfl) ?_
        refine va_get (D := (dC, dI)) (ci := 0) (v := .ref a4) (C := R_O) (T := F_O) (N := 9) hx hb htA in_O hown hK hP 0 rfl rfl 7 (by decide) (htA _ k_135) (fun _ h9 => h9) rfl d_O_computeExactly_61 ?_
        refine lv_aload_n hx hb d_O_computeExactly_64 rfl (lv_at hl 0 rfl) ?_
        refine va_get (D := (dC, dI)) (ci := 0) (v := .ref a5) (C := R_O) (T := F_O) (N := 9) hx hb htA in_O hown hK hP 0 rfl rfl 8 (by decide) (htA _ k_136) (fun _ h9 => h9) rfl d_O_computeExactly_65 ?_
        have hPc := hP.sub (ws' := [(a4, .inr (2, [.long z8.1, .long z8.2.1, .int z8.2.2])), (a5, .inr (2, [.long z19.1, .long z19.2.1, .int z19.2.2]))]) [1, 3] rfl
        have hDc := hD.sub (ws' := [(a4, .inr (2, [.long z8.1, .long z8.2.1, .int z8.2.2])), (a5, .inr (2, [.long z19.1, .long z19.2.1, .int z19.2.2]))]) [1, 3] (by decide) rfl
        have hKc := hK.sub (tys' := []) [] rfl
        have hFc := va_free (wc := [(a4, .inr (2, [.long z8.1, .long z8.2.1, .int z8.2.2])), (a5, .inr (2, [.long z19.1, .long z19.2.1, .int z19.2.2]))]) hD hS hA [1, 3] rfl
        refine cc_v (va_runVN (As := [.ref a5]) (rest := []) ⟨hx, hb, hml, hown, htA⟩ (c_S_multiply l dC dI a4 a5 H.size z8.1 z8.2.1 z8.2.2 z19.1 z19.2.1 z19.2.2) ⟨va_cnB 1 htA (gi_code k_63) rfl rfl rfl (hnw _ n_19) (htA _ k_36) (by decide +kernel) ⟨Nat.le_of_ble_eq_true rfl, Nat.le_of_ble_eq_true rfl⟩, htA _ k_151, htA _ k_152⟩ (pre_V hnw hPc hKc hDc (ci := 2) (q0 := 0) rfl rfl) rfl rfl hl.1 rfl (lv_room (Nat.le_of_ble_eq_true rfl)) d_O_computeExactly_68 ⟨Nat.le_of_ble_eq_true rfl, Nat.le_of_ble_eq_true rfl⟩) hS hFc hP hD [1, 3] [0, 2, 4] (wr := [(aO, .inr (0, [.ref aT, .ref aF, .int cw, .int ts, .ref a1, .ref a2, .ref a3, .ref a4, .ref a5])), (a1, .inr (1, [.int (b2i n1), .int p1, .long f1])), (a2, .inr (1, [.int (b2i n2), .int p2, .long f2]))]) rfl rfl (by decide) (by decide) (fun H locs hP hD hS => ?_)
        obtain ⟨z68, ez68⟩ : ∃ z, g_S_multiply z8.1 z8.2.2 z19.1 z19.2.2 = z := ⟨_, rfl⟩
        rw [ez68] at hP hD
        have hP : va_P (dC, dI) classes [(aO, .inr (0, [.ref aT, .ref aF, .int cw, .int ts, .ref a1, .ref a2, .ref a3, .ref a4, .ref a5])), (a1, .inr (1, [.int (b2i n1), .int p1, .long f1])), (a2, .inr (1, [.int (b2i n2), .int p2, .long f2])), (a4, .inr (2, [.long z68.1, .long z68.2.1, .int z68.2.2])), (a5, .inr (2, [.long z19.1, .long z19.2.1, .int z19.2.2]))] H := hP
        have hD : va_D A [(aO, .inr (0, [.ref aT, .ref aF, .int cw, .int ts, .ref a1, .ref a2, .ref a3, .ref a4, .ref a5])), (a1, .inr (1, [.int (b2i n1), .int p1, .long f1])), (a2, .inr (1, [.int (b2i n2), .int p2, .long f2])), (a4, .inr (2, [.long z68.1, .long z68.2.1, .int z68.2.2])), (a5, .inr (2, [.long z19.1, .long z19.2.1, .int z19.2.2]))] := hD
        refine lv_goto (tgt := 85) hx hb d_O_computeExactly_71 (by decide) ?_
        refine lv_aload_n hx hb d_O_computeExactly_85 rfl (lv_at hl 0 rfl) ?_
        have hPc := hP.sub (ws' := [(aO, .inr (0, [.ref aT, .ref aF, .int cw, .int ts, .ref a1, .ref a2, .ref a3, .ref a4, .ref a5])), (a1, .inr (1, [.int (b2i n1), .int p1, .long f1])), (a2, .inr (1, [.int (b2i n2), .int p2, .long f2]))]) [0, 1, 2] rfl
        have hDc := hD.sub (ws' := [(aO, .inr (0, [.ref aT, .ref aF, .int cw, .int ts, .ref a1, .ref a2, .ref a3, .ref a4, .ref a5])), (a1, .inr (1, [.int (b2i n1), .int p1, .long f1])), (a2, .inr (1, [.int (b2i n2), .int p2, .long f2]))]) [0, 1, 2] (by decide) rfl
        have hKc := hK.sub (tys' := []) [] rfl
        have hFc := va_free (wc := [(aO, .inr (0, [.ref aT, .ref aF, .int cw, .int ts, .ref a1, .ref a2, .ref a3, .ref a4, .ref a5])), (a1, .inr (1, [.int (b2i n1), .int p1, .long f1])), (a2, .inr (1, [.int (b2i n2), .int p2, .long f2]))]) hD hS hA [0, 1, 2] rfl
        refine cc_i (va_runV (As := []) (rest := []) ⟨hx, hb, hml, hown, htA⟩ (c_O_hasOppositeSigns l dC dI aO a1 a2 aT aF a3 a4 a5 H.size cw ts n1 p1 f1 n2 p2 f2) (cwV 0 htA (gi_V k_119 k_120 k_121 k_90 (gi_code k_106)) rfl rfl rfl (by decide +kernel) ⟨Nat.le_of_ble_eq_true rfl, Nat.le_of_ble_eq_true rfl⟩) (pre_V hnw hPc hKc hDc (ci := 0) (q0 := 0) rfl rfl) rfl rfl hl.1 rfl (lv_room (Nat.le_of_ble_eq_true rfl)) d_O_computeExactly_86 ⟨Nat.le_of_ble_eq_true rfl, Nat.le_of_ble_eq_true rfl⟩) hS hFc hP hD [0, 1, 2] [3, 4] (wr := [(a4, .inr (2, [.long z68.1, .long z68.2.1, .int z68.2.2])), (a5, .inr (2, [.long z19.1, .long z19.2.1, .int z19.2.2]))]) rfl rfl (by decide) (by decide) (fun H locs hP hD hS => ?_)
        have hP : va_P (dC, dI) classes [(a4, .inr (2, [.long z68.1, .long z68.2.1, .int z68.2.2])), (a5, .inr (2, [.long z19.1, .long z19.2.1, .int z19.2.2])), (aO, .inr (0, [.ref aT, .ref aF, .int cw, .int ts, .ref a1, .ref a2, .ref a3, .ref a4, .ref a5])), (a1, .inr (1, [.int (b2i n1), .int p1, .long f1])), (a2, .inr (1, [.int (b2i n2), .int p2, .long f2]))] H := hP
        have hD : va_D A [(a4, .inr (2, [.long z68.1, .long z68.2.1, .int z68.2.2])), (a5, .inr (2, [.long z19.1, .long z19.2.1, .int z19.2.2])), (aO, .inr (0, [.ref aT, .ref aF, .int cw, .int ts, .ref a1, .ref a2, .ref a3, .ref a4, .ref a5])), (a1, .inr (1, [.int (b2i n1), .int p1, .long f1])), (a2, .inr (1, [.int (b2i n2), .int p2, .long f2]))] := hD
        have hE : g_O_computeExactly cw n1 p1 f1 n2 p2 f2 iop = ((g_O_hasOppositeSigns n1 n2), z68.1, z68.2.1, z68.2.2, z19.1, z19.2.1, z19.2.2) := by clear hP hD hl hS; subst ez68; subst ez19; subst ez8; unfold g_O_computeExactly; (try dsimp only); rw [if_neg c_26, if_neg c_37, if_pos c_57]
        have hP9 : va_P (dC, dI) classes [(aO, .inr (0, [.ref aT, .ref aF, .int cw, .int ts, .ref a1, .ref a2, .ref a3, .ref a4, .ref a5])), (a1, .inr (1, [.int (b2i n1), .int p1, .long f1])), (a2, .inr (1, [.int (b2i n2), .int p2, .long f2])), (a4, .inr (2, [.long ((g_O_computeExactly cw n1 p1 f1 n2 p2 f2 iop).2.1), .long ((g_O_computeExactly cw n1 p1 f1 n2 p2 f2 iop).2.2.1), .int ((g_O_computeExactly cw n1 p1 f1 n2 p2 f2 iop).2.2.2.1)])), (a5, .inr (2, [.long ((g_O_computeExactly cw n1 p1 f1 n2 p2 f2 iop).2.2.2.2.1), .long ((g_O_computeExactly cw n1 p1 f1 n2 p2 f2 iop).2.2.2.2.2.1), .int ((g_O_computeExactly cw n1 p1 f1 n2 p2 f2 iop).2.2.2.2.2.2)]))] H := by rw [hE]; exact hP.sub [2, 3, 4, 0, 1] rfl
        have hD9 : va_D A [(aO, .inr (0, [.ref aT, .ref aF, .int cw, .int ts, .ref a1, .ref a2, .ref a3, .ref a4, .ref a5])), (a1, .inr (1, [.int (b2i n1), .int p1, .long f1])), (a2, .inr (1, [.int (b2i n2), .int p2, .long f2])), (a4, .inr (2, [.long ((g_O_computeExactly cw n1 p1 f1 n2 p2 f2 iop).2.1), .long ((g_O_computeExactly cw n1 p1 f1 n2 p2 f2 iop).2.2.1), .int ((g_O_computeExactly cw n1 p1 f1 n2 p2 f2 iop).2.2.2.1)])), (a5, .inr (2, [.long ((g_O_computeExactly cw n1 p1 f1 n2 p2 f2 iop).2.2.2.2.1), .long ((g_O_computeExactly cw n1 p1 f1 n2 p2 f2 iop).2.2.2.2.2.1), .int ((g_O_computeExactly cw n1 p1 f1 n2 p2 f2 iop).2.2.2.2.2.2)]))] := by rw [hE]; exact hD.sub [2, 3, 4, 0, 1] (by decide) rfl
        exact W.zret (v := (b2i (g_O_hasOppositeSigns n1 n2))) hx hb hr (by first | exact nar_b2i _ | rfl) (fun t ht hW => ⟨⟨(b2i (g_O_hasOppositeSigns n1 n2)), (), rfl, by rw [hE], by rw [ht]; exact hP9, hD9⟩, hS.F ht⟩) hS.2.2 d_O_computeExactly_89
    · skip
      refine lv_aload_n hx hb d_O_computeExactly_40 rfl (lv_at hl 0 rfl) ?_
      refine va_get (D := (dC, dI)) (ci := 0) (v := .ref a4) (C := R_O) (T := F_O) (N := 9) hx hb htA in_O hown hK hP 0 rfl rfl 7 (by decide) (htA _ k_135) (fun _ h9 => h9) rfl d_O_computeExactly_41 ?_
      have hPc := hP.sub (ws' := [(a4, .inr (2, [.long z8.1, .long z8.2.1, .int z8.2.2]))]) [1] rfl
      have hDc := hD.sub (ws' := [(a4, .inr (2, [.long z8.1, .long z8.2.1, .int z8.2.2]))]) [1] (by decide) rfl
      have hKc := hK.sub (tys' := []) [] rfl
      have hFc := va_free (wc := [(a4, .inr (2, [.long z8.1, .long z8.2.1, .int z8.2.2]))]) hD hS hA [1] rfl
      refine cc_v (va_runVN (As := []) (rest := []) ⟨hx, hb, hml, hown, htA⟩ (c_S_takeRoot l dC dI a4 H.size z8.1 z8.2.1 z8.2.2) ⟨va_cnB 0 htA (gi_code k_73) rfl rfl rfl (hnw _ n_20) (htA _ k_36) (by decide +kernel) ⟨Nat.le_of_ble_eq_true rfl, Nat.le_of_ble_eq_true rfl⟩, htA _ k_153, htA _ k_154⟩ (pre_V hnw hPc hKc hDc (ci := 2) (q0 := 0) rfl rfl) rfl rfl hl.1 rfl (lv_room (Nat.le_of_ble_eq_true rfl)) d_O_computeExactly_44 ⟨Nat.le_of_ble_eq_true rfl, Nat.le_of_ble_eq_true rfl⟩) hS hFc hP hD [1] [0, 2, 3, 4] (wr := [(aO, .inr (0, [.ref aT, .ref aF, .int cw, .int ts, .ref a1, .ref a2, .ref a3, .ref a4, .ref a5])), (a1, .inr (1, [.int (b2i n1), .int p1, .long f1])), (a5, .inr (2, [.long z19.1, .long z19.2.1, .int z19.2.2])), (a2, .inr (1, [.int (b2i n2), .int p2, .long f2]))]) rfl rfl (by decide) (by decide) (fun H locs hP hD hS => ?_)
      obtain ⟨z44, ez44⟩ : ∃ z, g_S_takeRoot z8.1 z8.2.1 z8.2.2 = z := ⟨_, rfl⟩
      rw [ez44] at hP hD
      have hP : va_P (dC, dI) classes [(aO, .inr (0, [.ref aT, .ref aF, .int cw, .int ts, .ref a1, .ref a2, .ref a3, .ref a4, .ref a5])), (a1, .inr (1, [.int (b2i n1), .int p1, .long f1])), (a5, .inr (2, [.long z19.1, .long z19.2.1, .int z19.2.2])), (a2, .inr (1, [.int (b2i n2), .int p2, .long f2])), (a4, .inr (2, [.long z44.1, .long z44.2.1, .int z44.2.2]))] H := hP
      have hD : va_D A [(aO, .inr (0, [.ref aT, .ref aF, .int cw, .int ts, .ref a1, .ref a2, .ref a3, .ref a4, .ref a5])), (a1, .inr (1, [.int (b2i n1), .int p1, .long f1])), (a5, .inr (2, [.long z19.1, .long z19.2.1, .int z19.2.2])), (a2, .inr (1, [.int (b2i n2), .int p2, .long f2])), (a4, .inr (2, [.long z44.1, .long z44.2.1, .int z44.2.2]))] := hD
      refine lv_aload_n hx hb d_O_computeExactly_47 rfl (lv_at hl 0 rfl) ?_
      refine va_get (D := (dC, dI)) (ci := 0) (v := .ref a1) (C := R_O) (T := F_O) (N := 9) hx hb htA in_O hown hK hP 0 rfl rfl 4 (by decide) (htA _ k_104) (fun _ h9 => h9) rfl d_O_computeExactly_48 ?_
      refine va_getN (D := (dC, dI)) (ci := 1) (v := .int (b2i n1)) (C := R_R) (T := F_R) (N := 3) hx hb htA in_R hown hK hP 1 rfl rfl 0 (by decide) (va_Nw.use rfl (hnw _ n_5)) (fun _ h9 => h9) rfl d_O_computeExactly_51 ?_
      have hE : g_O_computeExactly cw n1 p1 f1 n2 p2 f2 iop = (n1, z44.1, z44.2.1, z44.2.2, z19.1, z19.2.1, z19.2.2) := by clear hP hD hl hS; subst ez44; subst ez19; subst ez8; unfold g_O_computeExactly; (try dsimp only); rw [if_neg c_26, if_pos c_37]
      have hP9 : va_P (dC, dI) classes [(aO, .inr (0, [.ref aT, .ref aF, .int cw, .int ts, .ref a1, .ref a2, .ref a3, .ref a4, .ref a5])), (a1, .inr (1, [.int (b2i n1), .int p1, .long f1])), (a2, .inr (1, [.int (b2i n2), .int p2, .long f2])), (a4, .inr (2, [.long ((g_O_computeExactly cw n1 p1 f1 n2 p2 f2 iop).2.1), .long ((g_O_computeExactly cw n1 p1 f1 n2 p2 f2 iop).2.2.1), .int ((g_O_computeExactly cw n1 p1 f1 n2 p2 f2 iop).2.2.2.1)])), (a5, .inr (2, [.long ((g_O_computeExactly cw n1 p1 f1 n2 p2 f2 iop).2.2.2.2.1), .long ((g_O_computeExactly cw n1 p1 f1 n2 p2 f2 iop).2.2.2.2.2.1), .int ((g_O_computeExactly cw n1 p1 f1 n2 p2 f2 iop).2.2.2.2.2.2)]))] H := by rw [hE]; exact hP.sub [0, 1, 3, 4, 2] rfl
      have hD9 : va_D A [(aO, .inr (0, [.ref aT, .ref aF, .int cw, .int ts, .ref a1, .ref a2, .ref a3, .ref a4, .ref a5])), (a1, .inr (1, [.int (b2i n1), .int p1, .long f1])), (a2, .inr (1, [.int (b2i n2), .int p2, .long f2])), (a4, .inr (2, [.long ((g_O_computeExactly cw n1 p1 f1 n2 p2 f2 iop).2.1), .long ((g_O_computeExactly cw n1 p1 f1 n2 p2 f2 iop).2.2.1), .int ((g_O_computeExactly cw n1 p1 f1 n2 p2 f2 iop).2.2.2.1)])), (a5, .inr (2, [.long ((g_O_computeExactly cw n1 p1 f1 n2 p2 f2 iop).2.2.2.2.1), .long ((g_O_computeExactly cw n1 p1 f1 n2 p2 f2 iop).2.2.2.2.2.1), .int ((g_O_computeExactly cw n1 p1 f1 n2 p2 f2 iop).2.2.2.2.2.2)]))] := by rw [hE]; exact hD.sub [0, 1, 3, 4, 2] (by decide) rfl
      exact W.zret (v := (b2i n1)) hx hb hr (by first | exact nar_b2i _ | rfl) (fun t ht hW => ⟨⟨(b2i n1), (), rfl, by rw [hE], by rw [ht]; exact hP9, hD9⟩, hS.F ht⟩) hS.2.2 d_O_computeExactly_54
  · skip
    have c_26 : (g_O_isSum iop) = true := b2i_nz c_26
    refine lv_aload_n hx hb d_O_computeExactly_29 rfl (lv_at hl 0 rfl) ?_
    have hPc := hP.sub (ws' := [(aO, .inr (0, [.ref aT, .ref aF, .int cw, .int ts, .ref a1, .ref a2, .ref a3, .ref a4, .ref a5])), (a1, .inr (1, [.int (b2i n1), .int p1, .long f1])), (a2, .inr (1, [.int (b2i n2), .int p2, .long f2])), (a4, .inr (2, [.long z8.1, .long z8.2.1, .int z8.2.2])), (a5, .inr (2, [.long z19.1, .long z19.2.1, .int z19.2.2]))]) [0, 2, 4, 1, 3] rfl
    have hDc := hD.sub (ws' := [(aO, .inr (0, [.ref aT, .ref aF, .int cw, .int ts, .ref a1, .ref a2, .ref a3, .ref a4, .ref a5])), (a1, .inr (1, [.int (b2i n1), .int p1, .long f1])), (a2, .inr (1, [.int (b2i n2), .int p2, .long f2])), (a4, .inr (2, [.long z8.1, .long z8.2.1, .int z8.2.2])), (a5, .inr (2, [.long z19.1, .long z19.2.1, .int z19.2.2]))]) [0, 2, 4, 1, 3] (by decide) rfl
    have hKc := hK.sub (tys' := []) [] rfl
    have hFc := va_free (wc := [(aO, .inr (0, [.ref aT, .ref aF, .int cw, .int ts, .ref a1, .ref a2, .ref a3, .ref a4, .ref a5])), (a1, .inr (1, [.int (b2i n1), .int p1, .long f1])), (a2, .inr (1, [.int (b2i n2), .int p2, .long f2])), (a4, .inr (2, [.long z8.1, .long z8.2.1, .int z8.2.2])), (a5, .inr (2, [.long z19.1, .long z19.2.1, .int z19.2.2]))]) hD hS hA [0, 2, 4, 1, 3] rfl
    refine cc_i (va_runV (As := []) (rest := []) ⟨hx, hb, hml, hown, htA⟩ (c_O_computeSum l dC dI aO a1 a2 a4 a5 aT aF a3 H.size cw ts n1 p1 f1 n2 p2 f2 z8.1 z8.2.1 z8.2.2 z19.1 z19.2.1 z19.2.2) (cwV 0 htA (gi_V k_155 k_156 k_157 k_90 (gi_code k_148)) rfl rfl rfl (by decide +kernel) ⟨Nat.le_of_ble_eq_true rfl, Nat.le_of_ble_eq_true rfl⟩) (pre_V hnw hPc hKc hDc (ci := 0) (q0 := 0) rfl rfl) rfl rfl hl.1 rfl (lv_room (Nat.le_of_ble_eq_true rfl)) d_O_computeExactly_30 ⟨Nat.le_of_ble_eq_true rfl, Nat.le_of_ble_eq_true rfl⟩) hS hFc hP hD [0, 2, 4, 1, 3] [] (wr := []) rfl rfl (by decide) (by decide) (fun H locs hP hD hS => ?_)
    obtain ⟨z30, ez30⟩ : ∃ z, g_O_computeSum cw n1 p1 f1 n2 p2 f2 z8.1 z8.2.1 z8.2.2 z19.1 z19.2.1 z19.2.2 = z := ⟨_, rfl⟩
    rw [ez30] at hP hD ⊢
    have hP : va_P (dC, dI) classes [(aO, .inr (0, [.ref aT, .ref aF, .int cw, .int ts, .ref a1, .ref a2, .ref a3, .ref a4, .ref a5])), (a1, .inr (1, [.int (b2i n1), .int p1, .long f1])), (a2, .inr (1, [.int (b2i n2), .int p2, .long f2])), (a4, .inr (2, [.long z30.2.1, .long z30.2.2.1, .int z30.2.2.2.1])), (a5, .inr (2, [.long z30.2.2.2.2.1, .long z30.2.2.2.2.2.1, .int z30.2.2.2.2.2.2]))] H := hP
    have hD : va_D A [(aO, .inr (0, [.ref aT, .ref aF, .int cw, .int ts, .ref a1, .ref a2, .ref a3, .ref a4, .ref a5])), (a1, .inr (1, [.int (b2i n1), .int p1, .long f1])), (a2, .inr (1, [.int (b2i n2), .int p2, .long f2])), (a4, .inr (2, [.long z30.2.1, .long z30.2.2.1, .int z30.2.2.2.1])), (a5, .inr (2, [.long z30.2.2.2.2.1, .long z30.2.2.2.2.2.1, .int z30.2.2.2.2.2.2]))] := hD
    have hE : g_O_computeExactly cw n1 p1 f1 n2 p2 f2 iop = (z30.1, z30.2.1, z30.2.2.1, z30.2.2.2.1, z30.2.2.2.2.1, z30.2.2.2.2.2.1, z30.2.2.2.2.2.2) := by clear hP hD hl hS; subst ez30; subst ez19; subst ez8; unfold g_O_computeExactly; (try dsimp only); rw [if_pos c_26]
    have hP9 : va_P (dC, dI) classes [(aO, .inr (0, [.ref aT, .ref aF, .int cw, .int ts, .ref a1, .ref a2, .ref a3, .ref a4, .ref a5])), (a1, .inr (1, [.int (b2i n1), .int p1, .long f1])), (a2, .inr (1, [.int (b2i n2), .int p2, .long f2])), (a4, .inr (2, [.long ((g_O_computeExactly cw n1 p1 f1 n2 p2 f2 iop).2.1), .long ((g_O_computeExactly cw n1 p1 f1 n2 p2 f2 iop).2.2.1), .int ((g_O_computeExactly cw n1 p1 f1 n2 p2 f2 iop).2.2.2.1)])), (a5, .inr (2, [.long ((g_O_computeExactly cw n1 p1 f1 n2 p2 f2 iop).2.2.2.2.1), .long ((g_O_computeExactly cw n1 p1 f1 n2 p2 f2 iop).2.2.2.2.2.1), .int ((g_O_computeExactly cw n1 p1 f1 n2 p2 f2 iop).2.2.2.2.2.2)]))] H := by rw [hE]; exact hP.sub [0, 1, 2, 3, 4] rfl
    have hD9 : va_D A [(aO, .inr (0, [.ref aT, .ref aF, .int cw, .int ts, .ref a1, .ref a2, .ref a3, .ref a4, .ref a5])), (a1, .inr (1, [.int (b2i n1), .int p1, .long f1])), (a2, .inr (1, [.int (b2i n2), .int p2, .long f2])), (a4, .inr (2, [.long ((g_O_computeExactly cw n1 p1 f1 n2 p2 f2 iop).2.1), .long ((g_O_computeExactly cw n1 p1 f1 n2 p2 f2 iop).2.2.1), .int ((g_O_computeExactly cw n1 p1 f1 n2 p2 f2 iop).2.2.2.1)])), (a5, .inr (2, [.long ((g_O_computeExactly cw n1 p1 f1 n2 p2 f2 iop).2.2.2.2.1), .long ((g_O_computeExactly cw n1 p1 f1 n2 p2 f2 iop).2.2.2.2.2.1), .int ((g_O_computeExactly cw n1 p1 f1 n2 p2 f2 iop).2.2.2.2.2.2)]))] := by rw [hE]; exact hD.sub [0, 1, 2, 3, 4] (by decide) rfl
    exact W.zret (v := (b2i z30.1)) hx hb hr (by first | exact nar_b2i _ | rfl) (fun t ht hW => ⟨⟨(b2i z30.1), (), rfl, by rw [hE], by rw [ht]; exact hP9, hD9⟩, hS.F ht⟩) hS.2.2 d_O_computeExactly_33
theorem d_O_roundSmall_0 : decode b_O_roundSmall 0 = .ok (.bipush 64, 2) := by decide +kernel
theorem d_O_roundSmall_2 : decode b_O_roundSmall 2 = .ok (.aload_n 0, 1) := by decide +kernel
theorem d_O_roundSmall_3 : decode b_O_roundSmall 3 = .ok (.invokevirtual 207, 3) := by decide +kernel
theorem d_O_roundSmall_6 : decode b_O_roundSmall 6 = .ok (.isub, 1) := by decide +kernel
theorem d_O_roundSmall_7 : decode b_O_roundSmall 7 = .ok (.istore_n 2, 1) := by decide +kernel
theorem d_O_roundSmall_8 : decode b_O_roundSmall 8 = .ok (.aload_n 0, 1) := by decide +kernel
theorem d_O_roundSmall_9 : decode b_O_roundSmall 9 = .ok (.bipush 16, 2) := by decide +kernel
theorem d_O_roundSmall_11 : decode b_O_roundSmall 11 = .ok (.invokevirtual 221, 3) := by decide +kernel
theorem d_O_roundSmall_14 : decode b_O_roundSmall 14 = .ok (.ifCond .eq 38, 3) := by decide +kernel
theorem d_O_roundSmall_52 : decode b_O_roundSmall 52 = .ok (.aload_n 0, 1) := by decide +kernel
theorem d_O_roundSmall_53 : decode b_O_roundSmall 53 = .ok (.getfield 40, 3) := by decide +kernel
theorem d_O_roundSmall_56 : decode b_O_roundSmall 56 = .ok (.iload_n 2, 1) := by decide +kernel
theorem d_O_roundSmall_57 : decode b_O_roundSmall 57 = .ok (.aload_n 0, 1) := by decide +kernel
theorem d_O_roundSmall_58 : decode b_O_roundSmall 58 = .ok (.invokevirtual 199, 3) := by decide +kernel
theorem d_O_roundSmall_61 : decode b_O_roundSmall 61 = .ok (.iload_n 1, 1) := by decide +kernel
theorem d_O_roundSmall_62 : decode b_O_roundSmall 62 = .ok (.invokevirtual 210, 3) := by decide +kernel
theorem d_O_roundSmall_65 : decode b_O_roundSmall 65 = .ok (.istore_n 3, 1) := by decide +kernel
theorem d_O_roundSmall_66 : decode b_O_roundSmall 66 = .ok (.aload_n 0, 1) := by decide +kernel
theorem d_O_roundSmall_67 : decode b_O_roundSmall 67 = .ok (.getfield 40, 3) := by decide +kernel
theorem d_O_roundSmall_70 : decode b_O_roundSmall 70 = .ok (.dup, 1) := by decide +kernel
theorem d_O_roundSmall_71 : decode b_O_roundSmall 71 = .ok (.getfield 224, 3) := by decide +kernel
theorem d_O_roundSmall_74 : decode b_O_roundSmall 74 = .ok (.sipush 24576, 3) := by decide +kernel
theorem d_O_roundSmall_77 : decode b_O_roundSmall 77 = .ok (.iadd, 1) := by decide +kernel
theorem d_O_roundSmall_78 : decode b_O_roundSmall 78 = .ok (.putfield 224, 3) := by decide +kernel
theorem d_O_roundSmall_81 : decode b_O_roundSmall 81 = .ok (.iload_n 3, 1) := by decide +kernel
theorem d_O_roundSmall_82 : decode b_O_roundSmall 82 = .ok (.ifCond .eq 8, 3) := by decide +kernel
theorem d_O_roundSmall_90 : decode b_O_roundSmall 90 = .ok (.bipush 16, 2) := by decide +kernel
theorem d_O_roundSmall_92 : decode b_O_roundSmall 92 = .ok (.ireturn, 1) := by decide +kernel
theorem d_O_roundSmall_85 : decode b_O_roundSmall 85 = .ok (.bipush 48, 2) := by decide +kernel
theorem d_O_roundSmall_87 : decode b_O_roundSmall 87 = .ok (.goto 5, 3) := by decide +kernel
theorem d_O_roundSmall_17 : decode b_O_roundSmall 17 = .ok (.iload_n 2, 1) := by decide +kernel
theorem d_O_roundSmall_18 : decode b_O_roundSmall 18 = .ok (.iconst 1, 1) := by decide +kernel
theorem d_O_roundSmall_19 : decode b_O_roundSmall 19 = .ok (.aload_n 0, 1) := by decide +kernel
theorem d_O_roundSmall_20 : decode b_O_roundSmall 20 = .ok (.getfield 40, 3) := by decide +kernel
theorem d_O_roundSmall_23 : decode b_O_roundSmall 23 = .ok (.invokevirtual 202, 3) := by decide +kernel
theorem d_O_roundSmall_26 : decode b_O_roundSmall 26 = .ok (.isub, 1) := by decide +kernel
theorem d_O_roundSmall_27 : decode b_O_roundSmall 27 = .ok (.iadd, 1) := by decide +kernel
theorem d_O_roundSmall_28 : decode b_O_roundSmall 28 = .ok (.istore_n 2, 1) := by decide +kernel
theorem d_O_roundSmall_29 : decode b_O_roundSmall 29 = .ok (.aload_n 0, 1) := by decide +kernel
theorem d_O_roundSmall_30 : decode b_O_roundSmall 30 = .ok (.getfield 40, 3) := by decide +kernel
theorem d_O_roundSmall_33 : decode b_O_roundSmall 33 = .ok (.iload_n 2, 1) := by decide +kernel
theorem d_O_roundSmall_34 : decode b_O_roundSmall 34 = .ok (.aload_n 0, 1) := by decide +kernel
theorem d_O_roundSmall_35 : decode b_O_roundSmall 35 = .ok (.invokevirtual 199, 3) := by decide +kernel
theorem d_O_roundSmall_38 : decode b_O_roundSmall 38 = .ok (.iload_n 1, 1) := by decide +kernel
theorem d_O_roundSmall_39 : decode b_O_roundSmall 39 = .ok (.invokevirtual 210, 3) := by decide +kernel
theorem d_O_roundSmall_42 : decode b_O_roundSmall 42 = .ok (.ifCond .eq 8, 3) := by decide +kernel
theorem d_O_roundSmall_50 : decode b_O_roundSmall 50 = .ok (.iconst 0, 1) := by decide +kernel
theorem d_O_roundSmall_51 : decode b_O_roundSmall 51 = .ok (.ireturn, 1) := by decide +kernel
theorem d_O_roundSmall_45 : decode b_O_roundSmall 45 = .ok (.bipush 48, 2) := by decide +kernel
theorem d_O_roundSmall_47 : decode b_O_roundSmall 47 = .ok (.goto 4, 3) := by decide +kernel
set_option maxHeartbeats 4000000 in
set_option maxRecDepth 100000 in
theorem c_O_roundSmall (l : Launch) (dC : Nat → ClassId) (dI : Nat → Nat → Nat) (aO : Nat) (a4 : Nat) (aT : Nat) (aF : Nat) (a1 : Nat) (a2 : Nat) (a3 : Nat) (a5 : Nat) (sz : Nat) (cw : Int32) (ts : Int32) (hi : Int64) (lo : Int64) (ex : Int32) (bn : Bool) : Met l y_O_roundSmall w_O_roundSmall ({ frames := 4, cells := 0, slots := 0, locals := 99 }) (cPc (dC, dI) [] [.ref aO, .int (b2i bn)] [(aO, .inr (0, [.ref aT, .ref aF, .int cw, .int ts, .ref a1, .ref a2, .ref a3, .ref a4, .ref a5])), (a4, .inr (2, [.long hi, .long lo, .int ex]))] sz) (va_Qi (fun (r : Int32) (_ : Unit) => r = (g_O_roundSmall cw hi lo ex bn).1) (fun _ t => va_P (dC, dI) classes [(aO, .inr (0, [.ref aT, .ref aF, .int cw, .int ts, .ref a1, .ref a2, .ref a3, .ref a4, .ref a5])), (a4, .inr (2, [.long ((g_O_roundSmall cw hi lo ex bn).2.1), .long ((g_O_roundSmall cw hi lo ex bn).2.2.1), .int ((g_O_roundSmall cw hi lo ex bn).2.2.2)]))] t.heap ∧ va_D (va_A [(aO, .inr (0, [.ref aT, .ref aF, .int cw, .int ts, .ref a1, .ref a2, .ref a3, .ref a4, .ref a5])), (a4, .inr (2, [.long hi, .long lo, .int ex]))] sz) [(aO, .inr (0, [.ref aT, .ref aF, .int cw, .int ts, .ref a1, .ref a2, .ref a3, .ref a4, .ref a5])), (a4, .inr (2, [.long ((g_O_roundSmall cw hi lo ex bn).2.1), .long ((g_O_roundSmall cw hi lo ex bn).2.2.1), .int ((g_O_roundSmall cw hi lo ex bn).2.2.2)]))]) (va_A [(aO, .inr (0, [.ref aT, .ref aF, .int cw, .int ts, .ref a1, .ref a2, .ref a3, .ref a4, .ref a5])), (a4, .inr (2, [.long hi, .long lo, .int ex]))] sz)) 0 0 (va_A [(aO, .inr (0, [.ref aT, .ref aF, .int cw, .int ts, .ref a1, .ref a2, .ref a3, .ref a4, .ref a5])), (a4, .inr (2, [.long hi, .long lo, .int ex]))] sz) := by
  refine Met.ofW (cc := b_O_roundSmall) (maxL := 4) (ret := (some .int)) (by decide) rfl ?_
  intro p e s m args below meth c s₁ B hml hv
  obtain ⟨rfl, hsz, hP, hK, hD0, hnw⟩ := hv
  have hx := B.exec
  have hb := B.bytes
  have hr := B.returns
  have hts := atoms_spec (ws := w_O_roundSmall) B.pre
  have htA : ∀ w ∈ wAll, w.before _ s = true := fun w h => hts w (List.mem_cons_of_mem _ h)
  have hown : s.vm.findClass R_O = some m.cls := findClass_of_methodNamed B.named
  have hlocks := B.notSynchronized
  subst hsz
  have hD := hD0.self (sz := s.heap.size)
  generalize hAe : va_A [(aO, .inr (0, [.ref aT, .ref aF, .int cw, .int ts, .ref a1, .ref a2, .ref a3, .ref a4, .ref a5])), (a4, .inr (2, [.long hi, .long lo, .int ex]))] s.heap.size = A at hD ⊢
  have hA : ∀ q : Nat, s.heap.size ≤ q → A q := fun q h => by rw [← hAe]; exact Or.inr h
  have hS : va_S A s.heap s.heap [] := va_S.rf
  have hP : va_P (dC, dI) classes [(aO, .inr (0, [.ref aT, .ref aF, .int cw, .int ts, .ref a1, .ref a2, .ref a3, .ref a4, .ref a5])), (a4, .inr (2, [.long hi, .long lo, .int ex]))] s.heap := hP
  obtain ⟨H, eH⟩ : ∃ z, z = s.heap := ⟨_, rfl⟩
  rw [← eH] at hP
  have hS : va_S A s.heap H [] := by rw [eH]; exact hS
  rw [← eH]
  generalize ([] : List Loc) = locs at hS ⊢
  have hl := lv_entry ([.ref aO, .int (b2i bn)]) (n := 4) (Nat.le_of_ble_eq_true rfl)
  rw [lg_entry_eq]
  generalize (lg_sl ([.ref aO, .int (b2i bn)]) ++ List.replicate (4 - (lg_sl ([.ref aO, .int (b2i bn)])).length) Slot.unset).toArray = ls at hl ⊢
  have hl : lv_has ls 4 [(0, .ref aO), (1, .int (b2i bn))] := hl
  refine lv_bipush (v := 64) hx hb d_O_roundSmall_0 (by decide) ?_
  refine lv_aload_n hx hb d_O_roundSmall_2 rfl (lv_at hl 0 rfl) ?_
  have hPc := hP.sub (ws' := [(aO, .inr (0, [.ref aT, .ref aF, .int cw, .int ts, .ref a1, .ref a2, .ref a3, .ref a4, .ref a5]))]) [0] rfl
  have hDc := hD.sub (ws' := [(aO, .inr (0, [.ref aT, .ref aF, .int cw, .int ts, .ref a1, .ref a2, .ref a3, .ref a4, .ref a5]))]) [0] (by decide) rfl
  have hKc := hK.sub (tys' := []) [] rfl
  have hFc := va_free (wc := [(aO, .inr (0, [.ref aT, .ref aF, .int cw, .int ts, .ref a1, .ref a2, .ref a3, .ref a4, .ref a5]))]) hD hS hA [0] rfl
  refine cc_i (va_runV (As := []) (rest := [.int 64]) ⟨hx, hb, hml, hown, htA⟩ (c_O_digits l dC dI aO aT aF a1 a2 a3 a4 a5 H.size cw ts) (cwV 0 htA (gi_V k_159 k_160 k_161 k_90 (gi_code k_98)) rfl rfl rfl (by decide +kernel) ⟨Nat.le_of_ble_eq_true rfl, Nat.le_of_ble_eq_true rfl⟩) (pre_V hnw hPc hKc hDc (ci := 0) (q0 := 0) rfl rfl) rfl rfl hl.1 rfl (lv_room (Nat.le_of_ble_eq_true rfl)) d_O_roundSmall_3 ⟨Nat.le_of_ble_eq_true rfl, Nat.le_of_ble_eq_true rfl⟩) hS hFc hP hD [0] [1] (wr := [(a4, .inr (2, [.long hi, .long lo, .int ex]))]) rfl rfl (by decide) (by decide) (fun H locs hP hD hS => ?_)
  have hP : va_P (dC, dI) classes [(a4, .inr (2, [.long hi, .long lo, .int ex])), (aO, .inr (0, [.ref aT, .ref aF, .int cw, .int ts, .ref a1, .ref a2, .ref a3, .ref a4, .ref a5]))] H := hP
  have hD : va_D A [(a4, .inr (2, [.long hi, .long lo, .int ex])), (aO, .inr (0, [.ref aT, .ref aF, .int cw, .int ts, .ref a1, .ref a2, .ref a3, .ref a4, .ref a5]))] := hD
  refine lv_isub hx hb d_O_roundSmall_6 ?_
  refine lv_istore_n (lv' := [(2, .int (64 - (g_O_digits cw))), (0, .ref aO), (1, .int (b2i bn))]) hx hb d_O_roundSmall_7 rfl hl (by decide) rfl (fun ls hl => ?_)
  refine lv_aload_n hx hb d_O_roundSmall_8 rfl (lv_at hl 1 rfl) ?_
  refine lv_bipush (v := 16) hx hb d_O_roundSmall_9 (by decide) ?_
  have hPc := hP.sub (ws' := [(aO, .inr (0, [.ref aT, .ref aF, .int cw, .int ts, .ref a1, .ref a2, .ref a3, .ref a4, .ref a5]))]) [1] rfl
  have hDc := hD.sub (ws' := [(aO, .inr (0, [.ref aT, .ref aF, .int cw, .int ts, .ref a1, .ref a2, .ref a3, .ref a4, .ref a5]))]) [1] (by decide) rfl
  have hKc := hK.sub (tys' := []) [] rfl
  have hFc := va_free (wc := [(aO, .inr (0, [.ref aT, .ref aF, .int cw, .int ts, .ref a1, .ref a2, .ref a3, .ref a4, .ref a5]))]) hD hS hA [1] rfl
  refine cc_i (va_runV (As := [.int 16]) (rest := []) ⟨hx, hb, hml, hown, htA⟩ (c_O_isMasked l dC dI aO aT aF a1 a2 a3 a4 a5 H.size cw ts 16) (cwV 1 htA (gi_V k_162 k_163 k_164 k_90 (gi_code k_96)) rfl rfl rfl (by decide +kernel) ⟨Nat.le_of_ble_eq_true rfl, Nat.le_of_ble_eq_true rfl⟩) (pre_V hnw hPc hKc hDc (ci := 0) (q0 := 0) rfl rfl) rfl rfl hl.1 rfl (lv_room (Nat.le_of_ble_eq_true rfl)) d_O_roundSmall_11 ⟨Nat.le_of_ble_eq_true rfl, Nat.le_of_ble_eq_true rfl⟩) hS hFc hP hD [1] [0] (wr := [(a4, .inr (2, [.long hi, .long lo, .int ex]))]) rfl rfl (by decide) (by decide) (fun H locs hP hD hS => ?_)
  have hP : va_P (dC, dI) classes [(a4, .inr (2, [.long hi, .long lo, .int ex])), (aO, .inr (0, [.ref aT, .ref aF, .int cw, .int ts, .ref a1, .ref a2, .ref a3, .ref a4, .ref a5]))] H := hP
  have hD : va_D A [(a4, .inr (2, [.long hi, .long lo, .int ex])), (aO, .inr (0, [.ref aT, .ref aF, .int cw, .int ts, .ref a1, .ref a2, .ref a3, .ref a4, .ref a5]))] := hD
  refine lv_if_eq (tgt := 52) hx hb d_O_roundSmall_14 (by decide) (fun c_14 => ?_) (fun c_14 => ?_)
  · skip
    have c_14 : ¬ (g_O_isMasked cw 16) = true := b2i_z c_14
    refine lv_aload_n hx hb d_O_roundSmall_52 rfl (lv_at hl 1 rfl) ?_
    refine va_get (D := (dC, dI)) (ci := 0) (v := .ref a4) (C := R_O) (T := F_O) (N := 9) hx hb htA in_O hown hK hP 1 rfl rfl 7 (by decide) (htA _ k_135) (fun _ h9 => h9) rfl d_O_roundSmall_53 ?_
    refine lv_iload_n hx hb d_O_roundSmall_56 rfl (lv_at hl 0 rfl) ?_
    refine lv_aload_n hx hb d_O_roundSmall_57 rfl (lv_at hl 1 rfl) ?_
    have hPc := hP.sub (ws' := [(aO, .inr (0, [.ref aT, .ref aF, .int cw, .int ts, .ref a1, .ref a2, .ref a3, .ref a4, .ref a5]))]) [1] rfl
    have hDc := hD.sub (ws' := [(aO, .inr (0, [.ref aT, .ref aF, .int cw, .int ts, .ref a1, .ref a2, .ref a3, .ref a4, .ref a5]))]) [1] (by decide) rfl
    have hKc := hK.sub (tys' := []) [] rfl
    have hFc := va_free (wc := [(aO, .inr (0, [.ref aT, .ref aF, .int cw, .int ts, .ref a1, .ref a2, .ref a3, .ref a4, .ref a5]))]) hD hS hA [1] rfl
    refine cc_i (va_runV (As := []) (rest := [.int (64 - (g_O_digits cw)), .ref a4]) ⟨hx, hb, hml, hown, htA⟩ (c_O_rounding l dC dI aO aT aF a1 a2 a3 a4 a5 H.size cw ts) (cwV 0 htA (gi_V k_143 k_144 k_145 k_90 (gi_code k_99)) rfl rfl rfl (by decide +kernel) ⟨Nat.le_of_ble_eq_true rfl, Nat.le_of_ble_eq_true rfl⟩) (pre_V hnw hPc hKc hDc (ci := 0) (q0 := 0) rfl rfl) rfl rfl hl.1 rfl (lv_room (Nat.le_of_ble_eq_true rfl)) d_O_roundSmall_58 ⟨Nat.le_of_ble_eq_true rfl, Nat.le_of_ble_eq_true rfl⟩) hS hFc hP hD [1] [0] (wr := [(a4, .inr (2, [.long hi, .long lo, .int ex]))]) rfl rfl (by decide) (by decide) (fun H locs hP hD hS => ?_)
    have hP : va_P (dC, dI) classes [(a4, .inr (2, [.long hi, .long lo, .int ex])), (aO, .inr (0, [.ref aT, .ref aF, .int cw, .int ts, .ref a1, .ref a2, .ref a3, .ref a4, .ref a5]))] H := hP
    have hD : va_D A [(a4, .inr (2, [.long hi, .long lo, .int ex])), (aO, .inr (0, [.ref aT, .ref aF, .int cw, .int ts, .ref a1, .ref a2, .ref a3, .ref a4, .ref a5]))] := hD
    refine lv_iload_n hx hb d_O_roundSmall_61 rfl (lv_at hl 2 rfl) ?_
    have hPc := hP.sub (ws' := [(a4, .inr (2, [.long hi, .long lo, .int ex]))]) [0] rfl
    have hDc := hD.sub (ws' := [(a4, .inr (2, [.long hi, .long lo, .int ex]))]) [0] (by decide) rfl
    have hKc := hK.sub (tys' := []) [] rfl
    have hFc := va_free (wc := [(a4, .inr (2, [.long hi, .long lo, .int ex]))]) hD hS hA [0] rfl
    refine cc_i (va_runVN (As := [.int (64 - (g_O_digits cw)), .int (g_O_rounding cw), .int (b2i bn)]) (rest := []) ⟨hx, hb, hml, hown, htA⟩ (c_S_round l dC dI a4 H.size hi lo ex (64 - (g_O_digits cw)) (g_O_rounding cw) bn) ⟨va_cnB 3 htA (gi_code k_82) rfl rfl rfl (hnw _ n_21) (htA _ k_36) (by decide +kernel) ⟨Nat.le_of_ble_eq_true rfl, Nat.le_of_ble_eq_true rfl⟩, htA _ k_165, htA _ k_166⟩ (pre_V hnw hPc hKc hDc (ci := 2) (q0 := 0) rfl rfl) rfl rfl hl.1 rfl (lv_room (Nat.le_of_ble_eq_true rfl)) d_O_roundSmall_62 ⟨Nat.le_of_ble_eq_true rfl, Nat.le_of_ble_eq_true rfl⟩) hS hFc hP hD [0] [1] (wr := [(aO, .inr (0, [.ref aT, .ref aF, .int cw, .int ts, .ref a1, .ref a2, .ref a3, .ref a4, .ref a5]))]) rfl rfl (by decide) (by decide) (fun H locs hP hD hS => ?_)
    obtain ⟨z62, ez62⟩ : ∃ z, g_S_round hi lo ex (64 - (g_O_digits cw)) (g_O_rounding cw) bn = z := ⟨_, rfl⟩
    rw [ez62] at hP hD ⊢
    have hP : va_P (dC, dI) classes [(aO, .inr (0, [.ref aT, .ref aF, .int cw, .int ts, .ref a1, .ref a2, .ref a3, .ref a4, .ref a5])), (a4, .inr (2, [.long z62.2.1, .long z62.2.2.1, .int z62.2.2.2]))] H := hP
    have hD : va_D A [(aO, .inr (0, [.ref aT, .ref aF, .int cw, .int ts, .ref a1, .ref a2, .ref a3, .ref a4, .ref a5])), (a4, .inr (2, [.long z62.2.1, .long z62.2.2.1, .int z62.2.2.2]))] := hD
    refine lv_istore_n (lv' := [(3, .int (b2i z62.1)), (2, .int (64 - (g_O_digits cw))), (0, .ref aO), (1, .int (b2i bn))]) hx hb d_O_roundSmall_65 rfl hl (by decide) rfl (fun ls hl => ?_)
    refine lv_aload_n hx hb d_O_roundSmall_66 rfl (lv_at hl 2 rfl) ?_
    refine va_get (D := (dC, dI)) (ci := 0) (v := .ref a4) (C := R_O) (T := F_O) (N := 9) hx hb htA in_O hown hK hP 0 rfl rfl 7 (by decide) (htA _ k_135) (fun _ h9 => h9) rfl d_O_roundSmall_67 ?_
    refine lv_dup hx hb d_O_roundSmall_70 rfl ?_
    refine va_getN (D := (dC, dI)) (ci := 2) (v := .int z62.2.2.2) (C := R_S) (T := F_S) (N := 3) hx hb htA in_S hown hK hP 1 rfl rfl 2 (by decide) (va_Nw.use rfl (hnw _ n_22)) (fun _ h9 => h9) rfl d_O_roundSmall_71 ?_
    refine lv_sipush (v := 24576) hx hb d_O_roundSmall_74 (by decide) ?_
    refine lv_iadd hx hb d_O_roundSmall_77 ?_
    refine va_putN (D := (dC, dI)) (ci := 2) (v := .int (z62.2.2.2 + 24576)) (ty := .int) (C := R_S) (T := F_S) (N := 3) hx hb htA in_S t_S t_S_ok n_S hown hK hP hD hS 1 rfl rfl 2 (by decide) (va_Nw.use rfl (hnw _ n_22)) (fun _ h9 => h9) rfl (by decide +kernel) rfl rfl (Nat.le_of_ble_eq_true rfl) d_O_roundSmall_78 (fun H locs hP hD hS => ?_)
    have hP : va_P (dC, dI) classes [(aO, .inr (0, [.ref aT, .ref aF, .int cw, .int ts, .ref a1, .ref a2, .ref a3, .ref a4, .ref a5])), (a4, .inr (2, [.long z62.2.1, .long z62.2.2.1, .int (z62.2.2.2 + 24576)]))] H := hP
    have hD : va_D A [(aO, .inr (0, [.ref aT, .ref aF, .int cw, .int ts, .ref a1, .ref a2, .ref a3, .ref a4, .ref a5])), (a4, .inr (2, [.long z62.2.1, .long z62.2.2.1, .int (z62.2.2.2 + 24576)]))] := hD
    refine lv_iload_n hx hb d_O_roundSmall_81 rfl (lv_at hl 0 rfl) ?_
    refine lv_if_eq (tgt := 90) hx hb d_O_roundSmall_82 (by decide) (fun c_82 => ?_) (fun c_82 => ?_)
    · skip
      have c_82 : ¬ z62.1 = true := b2i_z c_82
      refine lv_bipush (v := 16) hx hb d_O_roundSmall_90 (by decide) ?_
      have hE : g_O_roundSmall cw hi lo ex bn = (16, z62.2.1, z62.2.2.1, (z62.2.2.2 + 24576)) := by clear hP hD hl hS; subst ez62; unfold g_O_roundSmall; (try dsimp only); rw [if_neg c_14, if_neg c_82]
      have hP9 : va_P (dC, dI) classes [(aO, .inr (0, [.ref aT, .ref aF, .int cw, .int ts, .ref a1, .ref a2, .ref a3, .ref a4, .ref a5])), (a4, .inr (2, [.long ((g_O_roundSmall cw hi lo ex bn).2.1), .long ((g_O_roundSmall cw hi lo ex bn).2.2.1), .int ((g_O_roundSmall cw hi lo ex bn).2.2.2)]))] H := by rw [hE]; exact hP.sub [0, 1] rfl
      have hD9 : va_D A [(aO, .inr (0, [.ref aT, .ref aF, .int cw, .int ts, .ref a1, .ref a2, .ref a3, .ref a4, .ref a5])), (a4, .inr (2, [.long ((g_O_roundSmall cw hi lo ex bn).2.1), .long ((g_O_roundSmall cw hi lo ex bn).2.2.1), .int ((g_O_roundSmall cw hi lo ex bn).2.2.2)]))] := by rw [hE]; exact hD.sub [0, 1] (by decide) rfl
      exact W.iret (v := 16) hx hb hr (fun t ht hW => ⟨⟨16, (), rfl, by rw [hE], by rw [ht]; exact hP9, hD9⟩, hS.F ht⟩) hS.2.2 d_O_roundSmall_92
    · skip
      have c_82 : z62.1 = true := b2i_nz c_82
      refine lv_bipush (v := 48) hx hb d_O_roundSmall_85 (by decide) ?_
      refine lv_goto (tgt := 92) hx hb d_O_roundSmall_87 (by decide) ?_
      have hE : g_O_roundSmall cw hi lo ex bn = (48, z62.2.1, z62.2.2.1, (z62.2.2.2 + 24576)) := by clear hP hD hl hS; subst ez62; unfold g_O_roundSmall; (try dsimp only); rw [if_neg c_14, if_pos c_82]
      have hP9 : va_P (dC, dI) classes [(aO, .inr (0, [.ref aT, .ref aF, .int cw, .int ts, .ref a1, .ref a2, .ref a3, .ref a4, .ref a5])), (a4, .inr (2, [.long ((g_O_roundSmall cw hi lo ex bn).2.1), .long ((g_O_roundSmall cw hi lo ex bn).2.2.1), .int ((g_O_roundSmall cw hi lo ex bn).2.2.2)]))] H := by rw [hE]; exact hP.sub [0, 1] rfl
      have hD9 : va_D A [(aO, .inr (0, [.ref aT, .ref aF, .int cw, .int ts, .ref a1, .ref a2, .ref a3, .ref a4, .ref a5])), (a4, .inr (2, [.long ((g_O_roundSmall cw hi lo ex bn).2.1), .long ((g_O_roundSmall cw hi lo ex bn).2.2.1), .int ((g_O_roundSmall cw hi lo ex bn).2.2.2)]))] := by rw [hE]; exact hD.sub [0, 1] (by decide) rfl
      exact W.iret (v := 48) hx hb hr (fun t ht hW => ⟨⟨48, (), rfl, by rw [hE], by rw [ht]; exact hP9, hD9⟩, hS.F ht⟩) hS.2.2 d_O_roundSmall_92
  · skip
    have c_14 : (g_O_isMasked cw 16) = true := b2i_nz c_14
    refine lv_iload_n hx hb d_O_roundSmall_17 rfl (lv_at hl 0 rfl) ?_
    refine lv_iconst (v := 1) hx hb d_O_roundSmall_18 (by decide) ?_
    refine lv_aload_n hx hb d_O_roundSmall_19 rfl (lv_at hl 1 rfl) ?_
    refine va_get (D := (dC, dI)) (ci := 0) (v := .ref a4) (C := R_O) (T := F_O) (N := 9) hx hb htA in_O hown hK hP 1 rfl rfl 7 (by decide) (htA _ k_135) (fun _ h9 => h9) rfl d_O_roundSmall_20 ?_
    have hPc := hP.sub (ws' := [(a4, .inr (2, [.long hi, .long lo, .int ex]))]) [0] rfl
    have hDc := hD.sub (ws' := [(a4, .inr (2, [.long hi, .long lo, .int ex]))]) [0] (by decide) rfl
    have hKc := hK.sub (tys' := []) [] rfl
    have hFc := va_free (wc := [(a4, .inr (2, [.long hi, .long lo, .int ex]))]) hD hS hA [0] rfl
    refine cc_i (va_runVN (As := []) (rest := [.int 1, .int (64 - (g_O_digits cw))]) ⟨hx, hb, hml, hown, htA⟩ (c_S_power l dC dI a4 H.size hi lo ex) ⟨va_cnB 0 htA (gi_code k_32) rfl rfl rfl (hnw _ n_23) (htA _ k_36) (by decide +kernel) ⟨Nat.le_of_ble_eq_true rfl, Nat.le_of_ble_eq_true rfl⟩, htA _ k_83, htA _ k_84⟩ (pre_V hnw hPc hKc hDc (ci := 2) (q0 := 0) rfl rfl) rfl rfl hl.1 rfl (lv_room (Nat.le_of_ble_eq_true rfl)) d_O_roundSmall_23 ⟨Nat.le_of_ble_eq_true rfl, Nat.le_of_ble_eq_true rfl⟩) hS hFc hP hD [0] [1] (wr := [(aO, .inr (0, [.ref aT, .ref aF, .int cw, .int ts, .ref a1, .ref a2, .ref a3, .ref a4, .ref a5]))]) rfl rfl (by decide) (by decide) (fun H locs hP hD hS => ?_)
    have hP : va_P (dC, dI) classes [(aO, .inr (0, [.ref aT, .ref aF, .int cw, .int ts, .ref a1, .ref a2, .ref a3, .ref a4, .ref a5])), (a4, .inr (2, [.long hi, .long lo, .int ex]))] H := hP
    have hD : va_D A [(aO, .inr (0, [.ref aT, .ref aF, .int cw, .int ts, .ref a1, .ref a2, .ref a3, .ref a4, .ref a5])), (a4, .inr (2, [.long hi, .long lo, .int ex]))] := hD
    refine lv_isub hx hb d_O_roundSmall_26 ?_
    refine lv_iadd hx hb d_O_roundSmall_27 ?_
    refine lv_istore_n (lv' := [(2, .int ((64 - (g_O_digits cw)) + (1 - (g_S_power ex)))), (0, .ref aO), (1, .int (b2i bn))]) hx hb d_O_roundSmall_28 rfl hl (by decide) rfl (fun ls hl => ?_)
    refine lv_aload_n hx hb d_O_roundSmall_29 rfl (lv_at hl 1 rfl) ?_
    refine va_get (D := (dC, dI)) (ci := 0) (v := .ref a4) (C := R_O) (T := F_O) (N := 9) hx hb htA in_O hown hK hP 0 rfl rfl 7 (by decide) (htA _ k_135) (fun _ h9 => h9) rfl d_O_roundSmall_30 ?_
    refine lv_iload_n hx hb d_O_roundSmall_33 rfl (lv_at hl 0 rfl) ?_
    refine lv_aload_n hx hb d_O_roundSmall_34 rfl (lv_at hl 1 rfl) ?_
    have hPc := hP.sub (ws' := [(aO, .inr (0, [.ref aT, .ref aF, .int cw, .int ts, .ref a1, .ref a2, .ref a3, .ref a4, .ref a5]))]) [0] rfl
    have hDc := hD.sub (ws' := [(aO, .inr (0, [.ref aT, .ref aF, .int cw, .int ts, .ref a1, .ref a2, .ref a3, .ref a4, .ref a5]))]) [0] (by decide) rfl
    have hKc := hK.sub (tys' := []) [] rfl
    have hFc := va_free (wc := [(aO, .inr (0, [.ref aT, .ref aF, .int cw, .int ts, .ref a1, .ref a2, .ref a3, .ref a4, .ref a5]))]) hD hS hA [0] rfl
    refine cc_i (va_runV (As := []) (rest := [.int ((64 - (g_O_digits cw)) + (1 - (g_S_power ex))), .ref a4]) ⟨hx, hb, hml, hown, htA⟩ (c_O_rounding l dC dI aO aT aF a1 a2 a3 a4 a5 H.size cw ts) (cwV 0 htA (gi_V k_143 k_144 k_145 k_90 (gi_code k_99)) rfl rfl rfl (by decide +kernel) ⟨Nat.le_of_ble_eq_true rfl, Nat.le_of_ble_eq_true rfl⟩) (pre_V hnw hPc hKc hDc (ci := 0) (q0 := 0) rfl rfl) rfl rfl hl.1 rfl (lv_room (Nat.le_of_ble_eq_true rfl)) d_O_roundSmall_35 ⟨Nat.le_of_ble_eq_true rfl, Nat.le_of_ble_eq_true rfl⟩) hS hFc hP hD [0] [1] (wr := [(a4, .inr (2, [.long hi, .long lo, .int ex]))]) rfl rfl (by decide) (by decide) (fun H locs hP hD hS => ?_)
    have hP : va_P (dC, dI) classes [(a4, .inr (2, [.long hi, .long lo, .int ex])), (aO, .inr (0, [.ref aT, .ref aF, .int cw, .int ts, .ref a1, .ref a2, .ref a3, .ref a4, .ref a5]))] H := hP
    have hD : va_D A [(a4, .inr (2, [.long hi, .long lo, .int ex])), (aO, .inr (0, [.ref aT, .ref aF, .int cw, .int ts, .ref a1, .ref a2, .ref a3, .ref a4, .ref a5]))] := hD
    refine lv_iload_n hx hb d_O_roundSmall_38 rfl (lv_at hl 2 rfl) ?_
    have hPc := hP.sub (ws' := [(a4, .inr (2, [.long hi, .long lo, .int ex]))]) [0] rfl
    have hDc := hD.sub (ws' := [(a4, .inr (2, [.long hi, .long lo, .int ex]))]) [0] (by decide) rfl
    have hKc := hK.sub (tys' := []) [] rfl
    have hFc := va_free (wc := [(a4, .inr (2, [.long hi, .long lo, .int ex]))]) hD hS hA [0] rfl
    refine cc_i (va_runVN (As := [.int ((64 - (g_O_digits cw)) + (1 - (g_S_power ex))), .int (g_O_rounding cw), .int (b2i bn)]) (rest := []) ⟨hx, hb, hml, hown, htA⟩ (c_S_round l dC dI a4 H.size hi lo ex ((64 - (g_O_digits cw)) + (1 - (g_S_power ex))) (g_O_rounding cw) bn) ⟨va_cnB 3 htA (gi_code k_82) rfl rfl rfl (hnw _ n_21) (htA _ k_36) (by decide +kernel) ⟨Nat.le_of_ble_eq_true rfl, Nat.le_of_ble_eq_true rfl⟩, htA _ k_165, htA _ k_166⟩ (pre_V hnw hPc hKc hDc (ci := 2) (q0 := 0) rfl rfl) rfl rfl hl.1 rfl (lv_room (Nat.le_of_ble_eq_true rfl)) d_O_roundSmall_39 ⟨Nat.le_of_ble_eq_true rfl, Nat.le_of_ble_eq_true rfl⟩) hS hFc hP hD [0] [1] (wr := [(aO, .inr (0, [.ref aT, .ref aF, .int cw, .int ts, .ref a1, .ref a2, .ref a3, .ref a4, .ref a5]))]) rfl rfl (by decide) (by decide) (fun H locs hP hD hS => ?_)
    obtain ⟨z39, ez39⟩ : ∃ z, g_S_round hi lo ex ((64 - (g_O_digits cw)) + (1 - (g_S_power ex))) (g_O_rounding cw) bn = z := ⟨_, rfl⟩
    rw [ez39] at hP hD ⊢
    have hP : va_P (dC, dI) classes [(aO, .inr (0, [.ref aT, .ref aF, .int cw, .int ts, .ref a1, .ref a2, .ref a3, .ref a4, .ref a5])), (a4, .inr (2, [.long z39.2.1, .long z39.2.2.1, .int z39.2.2.2]))] H := hP
    have hD : va_D A [(aO, .inr (0, [.ref aT, .ref aF, .int cw, .int ts, .ref a1, .ref a2, .ref a3, .ref a4, .ref a5])), (a4, .inr (2, [.long z39.2.1, .long z39.2.2.1, .int z39.2.2.2]))] := hD
    refine lv_if_eq (tgt := 50) hx hb d_O_roundSmall_42 (by decide) (fun c_42 => ?_) (fun c_42 => ?_)
    · skip
      have c_42 : ¬ z39.1 = true := b2i_z c_42
      refine lv_iconst (v := 0) hx hb d_O_roundSmall_50 (by decide) ?_
      have hE : g_O_roundSmall cw hi lo ex bn = (0, z39.2.1, z39.2.2.1, z39.2.2.2) := by clear hP hD hl hS; subst ez39; unfold g_O_roundSmall; (try dsimp only); rw [if_pos c_14, if_neg c_42]
      have hP9 : va_P (dC, dI) classes [(aO, .inr (0, [.ref aT, .ref aF, .int cw, .int ts, .ref a1, .ref a2, .ref a3, .ref a4, .ref a5])), (a4, .inr (2, [.long ((g_O_roundSmall cw hi lo ex bn).2.1), .long ((g_O_roundSmall cw hi lo ex bn).2.2.1), .int ((g_O_roundSmall cw hi lo ex bn).2.2.2)]))] H := by rw [hE]; exact hP.sub [0, 1] rfl
      have hD9 : va_D A [(aO, .inr (0, [.ref aT, .ref aF, .int cw, .int ts, .ref a1, .ref a2, .ref a3, .ref a4, .ref a5])), (a4, .inr (2, [.long ((g_O_roundSmall cw hi lo ex bn).2.1), .long ((g_O_roundSmall cw hi lo ex bn).2.2.1), .int ((g_O_roundSmall cw hi lo ex bn).2.2.2)]))] := by rw [hE]; exact hD.sub [0, 1] (by decide) rfl
      exact W.iret (v := 0) hx hb hr (fun t ht hW => ⟨⟨0, (), rfl, by rw [hE], by rw [ht]; exact hP9, hD9⟩, hS.F ht⟩) hS.2.2 d_O_roundSmall_51
    · skip
      have c_42 : z39.1 = true := b2i_nz c_42
      refine lv_bipush (v := 48) hx hb d_O_roundSmall_45 (by decide) ?_
      refine lv_goto (tgt := 51) hx hb d_O_roundSmall_47 (by decide) ?_
      have hE : g_O_roundSmall cw hi lo ex bn = (48, z39.2.1, z39.2.2.1, z39.2.2.2) := by clear hP hD hl hS; subst ez39; unfold g_O_roundSmall; (try dsimp only); rw [if_pos c_14, if_pos c_42]
      have hP9 : va_P (dC, dI) classes [(aO, .inr (0, [.ref aT, .ref aF, .int cw, .int ts, .ref a1, .ref a2, .ref a3, .ref a4, .ref a5])), (a4, .inr (2, [.long ((g_O_roundSmall cw hi lo ex bn).2.1), .long ((g_O_roundSmall cw hi lo ex bn).2.2.1), .int ((g_O_roundSmall cw hi lo ex bn).2.2.2)]))] H := by rw [hE]; exact hP.sub [0, 1] rfl
      have hD9 : va_D A [(aO, .inr (0, [.ref aT, .ref aF, .int cw, .int ts, .ref a1, .ref a2, .ref a3, .ref a4, .ref a5])), (a4, .inr (2, [.long ((g_O_roundSmall cw hi lo ex bn).2.1), .long ((g_O_roundSmall cw hi lo ex bn).2.2.1), .int ((g_O_roundSmall cw hi lo ex bn).2.2.2)]))] := by rw [hE]; exact hD.sub [0, 1] (by decide) rfl
      exact W.iret (v := 48) hx hb hr (fun t ht hW => ⟨⟨48, (), rfl, by rw [hE], by rw [ht]; exact hP9, hD9⟩, hS.F ht⟩) hS.2.2 d_O_roundSmall_51
