theorem d_S_multiply_0 : decode b_S_multiply 0 = .ok (.aload_n 0, 1) := by decide +kernel
theorem d_S_multiply_1 : decode b_S_multiply 1 = .ok (.dup, 1) := by decide +kernel
theorem d_S_multiply_2 : decode b_S_multiply 2 = .ok (.getfield 18, 3) := by decide +kernel
theorem d_S_multiply_5 : decode b_S_multiply 5 = .ok (.aload_n 1, 1) := by decide +kernel
theorem d_S_multiply_6 : decode b_S_multiply 6 = .ok (.getfield 18, 3) := by decide +kernel
theorem d_S_multiply_9 : decode b_S_multiply 9 = .ok (.bipush 64, 2) := by decide +kernel
theorem d_S_multiply_11 : decode b_S_multiply 11 = .ok (.iadd, 1) := by decide +kernel
theorem d_S_multiply_12 : decode b_S_multiply 12 = .ok (.iadd, 1) := by decide +kernel
theorem d_S_multiply_13 : decode b_S_multiply 13 = .ok (.putfield 18, 3) := by decide +kernel
theorem d_S_multiply_16 : decode b_S_multiply 16 = .ok (.aload_n 0, 1) := by decide +kernel
theorem d_S_multiply_17 : decode b_S_multiply 17 = .ok (.aload_n 0, 1) := by decide +kernel
theorem d_S_multiply_18 : decode b_S_multiply 18 = .ok (.getfield 9, 3) := by decide +kernel
theorem d_S_multiply_21 : decode b_S_multiply 21 = .ok (.aload_n 1, 1) := by decide +kernel
theorem d_S_multiply_22 : decode b_S_multiply 22 = .ok (.getfield 9, 3) := by decide +kernel
theorem d_S_multiply_25 : decode b_S_multiply 25 = .ok (.invokevirtual 56, 3) := by decide +kernel
theorem d_S_multiply_28 : decode b_S_multiply 28 = .ok (.aload_n 0, 1) := by decide +kernel
theorem d_S_multiply_29 : decode b_S_multiply 29 = .ok (.invokevirtual 36, 3) := by decide +kernel
theorem d_S_multiply_32 : decode b_S_multiply 32 = .ok (.return_, 1) := by decide +kernel
set_option maxHeartbeats 4000000 in
set_option maxRecDepth 100000 in
theorem c_S_multiply (l : Launch) (dC : Nat → ClassId) (dI : Nat → Nat → Nat) (a4 : Nat) (a5 : Nat) (sz : Nat) (hi : Int64) (lo : Int64) (ex : Int32) (hi2 : Int64) (lo2 : Int64) (ex2 : Int32) : Met l y_S_multiply w_S_multiply ({ frames := 2, cells := 0, slots := 0, locals := 41 }) (cPc (dC, dI) [] [.ref a4, .ref a5] [(a4, .inr (2, [.long hi, .long lo, .int ex])), (a5, .inr (2, [.long hi2, .long lo2, .int ex2]))] sz) (va_Qv (fun (_ : Unit) => True) (fun _ t => va_P (dC, dI) classes [(a4, .inr (2, [.long ((g_S_multiply hi ex hi2 ex2).1), .long ((g_S_multiply hi ex hi2 ex2).2.1), .int ((g_S_multiply hi ex hi2 ex2).2.2)])), (a5, .inr (2, [.long hi2, .long lo2, .int ex2]))] t.heap ∧ va_D (va_A [(a4, .inr (2, [.long hi, .long lo, .int ex])), (a5, .inr (2, [.long hi2, .long lo2, .int ex2]))] sz) [(a4, .inr (2, [.long ((g_S_multiply hi ex hi2 ex2).1), .long ((g_S_multiply hi ex hi2 ex2).2.1), .int ((g_S_multiply hi ex hi2 ex2).2.2)])), (a5, .inr (2, [.long hi2, .long lo2, .int ex2]))]) (va_A [(a4, .inr (2, [.long hi, .long lo, .int ex])), (a5, .inr (2, [.long hi2, .long lo2, .int ex2]))] sz)) 0 0 (va_A [(a4, .inr (2, [.long hi, .long lo, .int ex])), (a5, .inr (2, [.long hi2, .long lo2, .int ex2]))] sz) := by
  refine Met.ofW (cc := b_S_multiply) (maxL := 2) (ret := none) (by decide) rfl ?_
  intro p e s m args below meth c s₁ B hml hv
  obtain ⟨rfl, hsz, hP, hK, hD0, hnw⟩ := hv
  have hx := B.exec
  have hb := B.bytes
  have hr := B.returns
  have hts := atoms_spec (ws := w_S_multiply) B.pre
  have htA : ∀ w ∈ wAll, w.before _ s = true := fun w h => hts w (List.mem_cons_of_mem _ h)
  have hown : s.vm.findClass R_S = some m.cls := findClass_of_methodNamed B.named
  have hlocks := B.notSynchronized
  subst hsz
  have hD := hD0.self (sz := s.heap.size)
  generalize hAe : va_A [(a4, .inr (2, [.long hi, .long lo, .int ex])), (a5, .inr (2, [.long hi2, .long lo2, .int ex2]))] s.heap.size = A at hD ⊢
  have hA : ∀ q : Nat, s.heap.size ≤ q → A q := fun q h => by rw [← hAe]; exact Or.inr h
  have hS : va_S A s.heap s.heap [] := va_S.rf
  have hP : va_P (dC, dI) classes [(a4, .inr (2, [.long hi, .long lo, .int ex])), (a5, .inr (2, [.long hi2, .long lo2, .int ex2]))] s.heap := hP
  obtain ⟨H, eH⟩ : ∃ z, z = s.heap := ⟨_, rfl⟩
  rw [← eH] at hP
  have hS : va_S A s.heap H [] := by rw [eH]; exact hS
  rw [← eH]
  generalize ([] : List Loc) = locs at hS ⊢
  have hl := lv_entry ([.ref a4, .ref a5]) (n := 2) (Nat.le_of_ble_eq_true rfl)
  rw [lg_entry_eq]
  generalize (lg_sl ([.ref a4, .ref a5]) ++ List.replicate (2 - (lg_sl ([.ref a4, .ref a5])).length) Slot.unset).toArray = ls at hl ⊢
  have hl : lv_has ls 2 [(0, .ref a4), (1, .ref a5)] := hl
  refine lv_aload_n hx hb d_S_multiply_0 rfl (lv_at hl 0 rfl) ?_
  refine lv_dup hx hb d_S_multiply_1 rfl ?_
  refine va_get (D := (dC, dI)) (ci := 2) (v := .int ex) (C := R_S) (T := F_S) (N := 3) hx hb htA in_S hown hK hP 0 rfl rfl 2 (by decide) (htA _ k_16) (fun _ h9 => h9) rfl d_S_multiply_2 ?_
  refine lv_aload_n hx hb d_S_multiply_5 rfl (lv_at hl 1 rfl) ?_
  refine va_get (D := (dC, dI)) (ci := 2) (v := .int ex2) (C := R_S) (T := F_S) (N := 3) hx hb htA in_S hown hK hP 1 rfl rfl 2 (by decide) (htA _ k_16) (fun _ h9 => h9) rfl d_S_multiply_6 ?_
  refine lv_bipush (v := 64) hx hb d_S_multiply_9 (by decide) ?_
  refine lv_iadd hx hb d_S_multiply_11 ?_
  refine lv_iadd hx hb d_S_multiply_12 ?_
  refine va_put (D := (dC, dI)) (ci := 2) (v := .int (ex + (ex2 + 64))) (ty := .int) (C := R_S) (T := F_S) (N := 3) hx hb htA in_S t_S t_S_ok n_S hown hK hP hD hS 0 rfl rfl 2 (by decide) (htA _ k_16) (fun _ h9 => h9) rfl (by decide +kernel) rfl rfl (Nat.le_of_ble_eq_true rfl) d_S_multiply_13 (fun H locs hP hD hS => ?_)
  have hP : va_P (dC, dI) classes [(a4, .inr (2, [.long hi, .long lo, .int (ex + (ex2 + 64))])), (a5, .inr (2, [.long hi2, .long lo2, .int ex2]))] H := hP
  have hD : va_D A [(a4, .inr (2, [.long hi, .long lo, .int (ex + (ex2 + 64))])), (a5, .inr (2, [.long hi2, .long lo2, .int ex2]))] := hD
  refine lv_aload_n hx hb d_S_multiply_16 rfl (lv_at hl 0 rfl) ?_
  refine lv_aload_n hx hb d_S_multiply_17 rfl (lv_at hl 0 rfl) ?_
  refine va_get (D := (dC, dI)) (ci := 2) (v := .long hi) (C := R_S) (T := F_S) (N := 3) hx hb htA in_S hown hK hP 0 rfl rfl 0 (by decide) (htA _ k_14) (fun _ h9 => h9) rfl d_S_multiply_18 ?_
  refine lv_aload_n hx hb d_S_multiply_21 rfl (lv_at hl 1 rfl) ?_
  refine va_get (D := (dC, dI)) (ci := 2) (v := .long hi2) (C := R_S) (T := F_S) (N := 3) hx hb htA in_S hown hK hP 1 rfl rfl 0 (by decide) (htA _ k_14) (fun _ h9 => h9) rfl d_S_multiply_22 ?_
  have hPc := hP.sub (ws' := [(a4, .inr (2, [.long hi, .long lo, .int (ex + (ex2 + 64))]))]) [0] rfl
  have hDc := hD.sub (ws' := [(a4, .inr (2, [.long hi, .long lo, .int (ex + (ex2 + 64))]))]) [0] (by decide) rfl
  have hKc := hK.sub (tys' := []) [] rfl
  have hFc := va_free (wc := [(a4, .inr (2, [.long hi, .long lo, .int (ex + (ex2 + 64))]))]) hD hS hA [0] rfl
  refine cc_v (va_runV (As := [.long hi, .long hi2]) (rest := []) ⟨hx, hb, hml, hown, htA⟩ (c_S_takeProduct l dC dI a4 H.size hi lo (ex + (ex2 + 64)) hi hi2) (cwV 2 htA (gi_V k_60 k_61 k_62 k_36 (gi_code k_59)) rfl rfl rfl (by decide +kernel) ⟨Nat.le_of_ble_eq_true rfl, Nat.le_of_ble_eq_true rfl⟩) (pre_V hnw hPc hKc hDc (ci := 2) (q0 := 0) rfl rfl) rfl rfl hl.1 rfl (lv_room (Nat.le_of_ble_eq_true rfl)) d_S_multiply_25 ⟨Nat.le_of_ble_eq_true rfl, Nat.le_of_ble_eq_true rfl⟩) hS hFc hP hD [0] [1] (wr := [(a5, .inr (2, [.long hi2, .long lo2, .int ex2]))]) rfl rfl (by decide) (by decide) (fun H locs hP hD hS => ?_)
  obtain ⟨z25, ez25⟩ : ∃ z, g_S_takeProduct hi hi2 = z := ⟨_, rfl⟩
  rw [ez25] at hP hD
  have hP : va_P (dC, dI) classes [(a5, .inr (2, [.long hi2, .long lo2, .int ex2])), (a4, .inr (2, [.long z25.1, .long z25.2, .int (ex + (ex2 + 64))]))] H := hP
  have hD : va_D A [(a5, .inr (2, [.long hi2, .long lo2, .int ex2])), (a4, .inr (2, [.long z25.1, .long z25.2, .int (ex + (ex2 + 64))]))] := hD
  refine lv_aload_n hx hb d_S_multiply_28 rfl (lv_at hl 0 rfl) ?_
  have hPc := hP.sub (ws' := [(a4, .inr (2, [.long z25.1, .long z25.2, .int (ex + (ex2 + 64))]))]) [1] rfl
  have hDc := hD.sub (ws' := [(a4, .inr (2, [.long z25.1, .long z25.2, .int (ex + (ex2 + 64))]))]) [1] (by decide) rfl
  have hKc := hK.sub (tys' := []) [] rfl
  have hFc := va_free (wc := [(a4, .inr (2, [.long z25.1, .long z25.2, .int (ex + (ex2 + 64))]))]) hD hS hA [1] rfl
  refine cc_v (va_runV (As := []) (rest := []) ⟨hx, hb, hml, hown, htA⟩ (c_S_normalize l dC dI a4 H.size z25.1 z25.2 (ex + (ex2 + 64))) (cwV 0 htA (gi_V k_45 k_46 k_47 k_36 (gi_code k_40)) rfl rfl rfl (by decide +kernel) ⟨Nat.le_of_ble_eq_true rfl, Nat.le_of_ble_eq_true rfl⟩) (pre_V hnw hPc hKc hDc (ci := 2) (q0 := 0) rfl rfl) rfl rfl hl.1 rfl (lv_room (Nat.le_of_ble_eq_true rfl)) d_S_multiply_29 ⟨Nat.le_of_ble_eq_true rfl, Nat.le_of_ble_eq_true rfl⟩) hS hFc hP hD [1] [0] (wr := [(a5, .inr (2, [.long hi2, .long lo2, .int ex2]))]) rfl rfl (by decide) (by decide) (fun H locs hP hD hS => ?_)
  obtain ⟨z29, ez29⟩ : ∃ z, g_S_normalize z25.1 z25.2 (ex + (ex2 + 64)) = z := ⟨_, rfl⟩
  rw [ez29] at hP hD
  have hP : va_P (dC, dI) classes [(a5, .inr (2, [.long hi2, .long lo2, .int ex2])), (a4, .inr (2, [.long z29.1, .long z29.2.1, .int z29.2.2]))] H := hP
  have hD : va_D A [(a5, .inr (2, [.long hi2, .long lo2, .int ex2])), (a4, .inr (2, [.long z29.1, .long z29.2.1, .int z29.2.2]))] := hD
  have hE : g_S_multiply hi ex hi2 ex2 = (z29.1, z29.2.1, z29.2.2) := by clear hP hD hl hS; subst ez29; subst ez25; unfold g_S_multiply; rfl
  have hP9 : va_P (dC, dI) classes [(a4, .inr (2, [.long ((g_S_multiply hi ex hi2 ex2).1), .long ((g_S_multiply hi ex hi2 ex2).2.1), .int ((g_S_multiply hi ex hi2 ex2).2.2)])), (a5, .inr (2, [.long hi2, .long lo2, .int ex2]))] H := by rw [hE]; exact hP.sub [1, 0] rfl
  have hD9 : va_D A [(a4, .inr (2, [.long ((g_S_multiply hi ex hi2 ex2).1), .long ((g_S_multiply hi ex hi2 ex2).2.1), .int ((g_S_multiply hi ex hi2 ex2).2.2)])), (a5, .inr (2, [.long hi2, .long lo2, .int ex2]))] := by rw [hE]; exact hD.sub [1, 0] (by decide) rfl
  exact W.vret hx hb hr (fun t ht hW => ⟨⟨(), rfl, trivial, by rw [ht]; exact hP9, hD9⟩, hS.F ht⟩) hS.2.2 d_S_multiply_32
theorem d_S_divide_0 : decode b_S_divide 0 = .ok (.aload_n 0, 1) := by decide +kernel
theorem d_S_divide_1 : decode b_S_divide 1 = .ok (.getfield 9, 3) := by decide +kernel
theorem d_S_divide_4 : decode b_S_divide 4 = .ok (.lstore_n 2, 1) := by decide +kernel
theorem d_S_divide_5 : decode b_S_divide 5 = .ok (.iconst 0, 1) := by decide +kernel
theorem d_S_divide_6 : decode b_S_divide 6 = .ok (.istore 4, 2) := by decide +kernel
theorem d_S_divide_8 : decode b_S_divide 8 = .ok (.aload_n 0, 1) := by decide +kernel
theorem d_S_divide_9 : decode b_S_divide 9 = .ok (.lconst 0, 1) := by decide +kernel
theorem d_S_divide_10 : decode b_S_divide 10 = .ok (.putfield 9, 3) := by decide +kernel
theorem d_S_divide_13 : decode b_S_divide 13 = .ok (.aload_n 0, 1) := by decide +kernel
theorem d_S_divide_14 : decode b_S_divide 14 = .ok (.lconst 0, 1) := by decide +kernel
theorem d_S_divide_15 : decode b_S_divide 15 = .ok (.putfield 15, 3) := by decide +kernel
theorem d_S_divide_18 : decode b_S_divide 18 = .ok (.iconst 0, 1) := by decide +kernel
theorem d_S_divide_19 : decode b_S_divide 19 = .ok (.istore 5, 2) := by decide +kernel
theorem d_S_divide_21 : decode b_S_divide 21 = .ok (.iload 5, 2) := by decide +kernel
theorem d_S_divide_23 : decode b_S_divide 23 = .ok (.sipush 128, 3) := by decide +kernel
theorem d_S_divide_26 : decode b_S_divide 26 = .ok (.if_icmp .ge 87, 3) := by decide +kernel
theorem d_S_divide_29 : decode b_S_divide 29 = .ok (.aload_n 0, 1) := by decide +kernel
theorem d_S_divide_30 : decode b_S_divide 30 = .ok (.aload_n 0, 1) := by decide +kernel
theorem d_S_divide_31 : decode b_S_divide 31 = .ok (.getfield 9, 3) := by decide +kernel
theorem d_S_divide_34 : decode b_S_divide 34 = .ok (.iconst 1, 1) := by decide +kernel
theorem d_S_divide_35 : decode b_S_divide 35 = .ok (.lshl, 1) := by decide +kernel
theorem d_S_divide_36 : decode b_S_divide 36 = .ok (.aload_n 0, 1) := by decide +kernel
theorem d_S_divide_37 : decode b_S_divide 37 = .ok (.getfield 15, 3) := by decide +kernel
theorem d_S_divide_40 : decode b_S_divide 40 = .ok (.bipush 63, 2) := by decide +kernel
theorem d_S_divide_42 : decode b_S_divide 42 = .ok (.lushr, 1) := by decide +kernel
theorem d_S_divide_43 : decode b_S_divide 43 = .ok (.lor, 1) := by decide +kernel
theorem d_S_divide_44 : decode b_S_divide 44 = .ok (.putfield 9, 3) := by decide +kernel
theorem d_S_divide_47 : decode b_S_divide 47 = .ok (.aload_n 0, 1) := by decide +kernel
theorem d_S_divide_48 : decode b_S_divide 48 = .ok (.dup, 1) := by decide +kernel
theorem d_S_divide_49 : decode b_S_divide 49 = .ok (.getfield 15, 3) := by decide +kernel
theorem d_S_divide_52 : decode b_S_divide 52 = .ok (.iconst 1, 1) := by decide +kernel
theorem d_S_divide_53 : decode b_S_divide 53 = .ok (.lshl, 1) := by decide +kernel
theorem d_S_divide_54 : decode b_S_divide 54 = .ok (.putfield 15, 3) := by decide +kernel
theorem d_S_divide_57 : decode b_S_divide 57 = .ok (.iload 4, 2) := by decide +kernel
theorem d_S_divide_59 : decode b_S_divide 59 = .ok (.ifCond .ne 14, 3) := by decide +kernel
theorem d_S_divide_62 : decode b_S_divide 62 = .ok (.lload_n 2, 1) := by decide +kernel
theorem d_S_divide_63 : decode b_S_divide 63 = .ok (.aload_n 1, 1) := by decide +kernel
theorem d_S_divide_64 : decode b_S_divide 64 = .ok (.getfield 9, 3) := by decide +kernel
theorem d_S_divide_67 : decode b_S_divide 67 = .ok (.invokestatic 39, 3) := by decide +kernel
theorem d_S_divide_70 : decode b_S_divide 70 = .ok (.ifCond .lt 20, 3) := by decide +kernel
theorem d_S_divide_73 : decode b_S_divide 73 = .ok (.lload_n 2, 1) := by decide +kernel
theorem d_S_divide_74 : decode b_S_divide 74 = .ok (.aload_n 1, 1) := by decide +kernel
theorem d_S_divide_75 : decode b_S_divide 75 = .ok (.getfield 9, 3) := by decide +kernel
theorem d_S_divide_78 : decode b_S_divide 78 = .ok (.lsub, 1) := by decide +kernel
theorem d_S_divide_79 : decode b_S_divide 79 = .ok (.lstore_n 2, 1) := by decide +kernel
theorem d_S_divide_80 : decode b_S_divide 80 = .ok (.aload_n 0, 1) := by decide +kernel
theorem d_S_divide_81 : decode b_S_divide 81 = .ok (.dup, 1) := by decide +kernel
theorem d_S_divide_82 : decode b_S_divide 82 = .ok (.getfield 15, 3) := by decide +kernel
theorem d_S_divide_85 : decode b_S_divide 85 = .ok (.lconst 1, 1) := by decide +kernel
theorem d_S_divide_86 : decode b_S_divide 86 = .ok (.lor, 1) := by decide +kernel
theorem d_S_divide_87 : decode b_S_divide 87 = .ok (.putfield 15, 3) := by decide +kernel
theorem d_S_divide_90 : decode b_S_divide 90 = .ok (.lload_n 2, 1) := by decide +kernel
theorem d_S_divide_91 : decode b_S_divide 91 = .ok (.lconst 0, 1) := by decide +kernel
theorem d_S_divide_92 : decode b_S_divide 92 = .ok (.lcmp, 1) := by decide +kernel
theorem d_S_divide_93 : decode b_S_divide 93 = .ok (.ifCond .ge 7, 3) := by decide +kernel
theorem d_S_divide_100 : decode b_S_divide 100 = .ok (.iconst 0, 1) := by decide +kernel
theorem d_S_divide_96 : decode b_S_divide 96 = .ok (.iconst 1, 1) := by decide +kernel
theorem d_S_divide_97 : decode b_S_divide 97 = .ok (.goto 4, 3) := by decide +kernel
theorem d_S_divide_101 : decode b_S_divide 101 = .ok (.istore 4, 2) := by decide +kernel
theorem d_S_divide_103 : decode b_S_divide 103 = .ok (.lload_n 2, 1) := by decide +kernel
theorem d_S_divide_104 : decode b_S_divide 104 = .ok (.iconst 1, 1) := by decide +kernel
theorem d_S_divide_105 : decode b_S_divide 105 = .ok (.lshl, 1) := by decide +kernel
theorem d_S_divide_106 : decode b_S_divide 106 = .ok (.lstore_n 2, 1) := by decide +kernel
theorem d_S_divide_107 : decode b_S_divide 107 = .ok (.iinc 5 1, 3) := by decide +kernel
theorem d_S_divide_110 : decode b_S_divide 110 = .ok (.goto (-89), 3) := by decide +kernel
theorem d_S_divide_113 : decode b_S_divide 113 = .ok (.iload 4, 2) := by decide +kernel
theorem d_S_divide_115 : decode b_S_divide 115 = .ok (.ifCond .ne 9, 3) := by decide +kernel
theorem d_S_divide_124 : decode b_S_divide 124 = .ok (.aload_n 0, 1) := by decide +kernel
theorem d_S_divide_125 : decode b_S_divide 125 = .ok (.dup, 1) := by decide +kernel
theorem d_S_divide_126 : decode b_S_divide 126 = .ok (.getfield 15, 3) := by decide +kernel
theorem d_S_divide_129 : decode b_S_divide 129 = .ok (.lconst 1, 1) := by decide +kernel
theorem d_S_divide_130 : decode b_S_divide 130 = .ok (.lor, 1) := by decide +kernel
theorem d_S_divide_131 : decode b_S_divide 131 = .ok (.putfield 15, 3) := by decide +kernel
theorem d_S_divide_118 : decode b_S_divide 118 = .ok (.lload_n 2, 1) := by decide +kernel
theorem d_S_divide_119 : decode b_S_divide 119 = .ok (.lconst 0, 1) := by decide +kernel
theorem d_S_divide_120 : decode b_S_divide 120 = .ok (.lcmp, 1) := by decide +kernel
theorem d_S_divide_121 : decode b_S_divide 121 = .ok (.ifCond .eq 13, 3) := by decide +kernel
theorem d_S_divide_134 : decode b_S_divide 134 = .ok (.aload_n 0, 1) := by decide +kernel
theorem d_S_divide_135 : decode b_S_divide 135 = .ok (.dup, 1) := by decide +kernel
theorem d_S_divide_136 : decode b_S_divide 136 = .ok (.getfield 18, 3) := by decide +kernel
theorem d_S_divide_139 : decode b_S_divide 139 = .ok (.aload_n 1, 1) := by decide +kernel
theorem d_S_divide_140 : decode b_S_divide 140 = .ok (.getfield 18, 3) := by decide +kernel
theorem d_S_divide_143 : decode b_S_divide 143 = .ok (.bipush 63, 2) := by decide +kernel
theorem d_S_divide_145 : decode b_S_divide 145 = .ok (.iadd, 1) := by decide +kernel
theorem d_S_divide_146 : decode b_S_divide 146 = .ok (.isub, 1) := by decide +kernel
theorem d_S_divide_147 : decode b_S_divide 147 = .ok (.putfield 18, 3) := by decide +kernel
theorem d_S_divide_150 : decode b_S_divide 150 = .ok (.aload_n 0, 1) := by decide +kernel
theorem d_S_divide_151 : decode b_S_divide 151 = .ok (.invokevirtual 36, 3) := by decide +kernel
theorem d_S_divide_154 : decode b_S_divide 154 = .ok (.return_, 1) := by decide +kernel
set_option maxHeartbeats 4000000 in
set_option maxRecDepth 100000 in
theorem c_S_divide (l : Launch) (dC : Nat → ClassId) (dI : Nat → Nat → Nat) (a4 : Nat) (a5 : Nat) (sz : Nat) (hi : Int64) (lo : Int64) (ex : Int32) (hi2 : Int64) (lo2 : Int64) (ex2 : Int32) : Met l y_S_divide w_S_divide ({ frames := 2, cells := 0, slots := 0, locals := 46 }) (cPc (dC, dI) [] [.ref a4, .ref a5] [(a4, .inr (2, [.long hi, .long lo, .int ex])), (a5, .inr (2, [.long hi2, .long lo2, .int ex2]))] sz) (va_Qv (fun (_ : Unit) => True) (fun _ t => va_P (dC, dI) classes [(a4, .inr (2, [.long ((g_S_divide hi ex hi2 ex2).1), .long ((g_S_divide hi ex hi2 ex2).2.1), .int ((g_S_divide hi ex hi2 ex2).2.2)])), (a5, .inr (2, [.long hi2, .long lo2, .int ex2]))] t.heap ∧ va_D (va_A [(a4, .inr (2, [.long hi, .long lo, .int ex])), (a5, .inr (2, [.long hi2, .long lo2, .int ex2]))] sz) [(a4, .inr (2, [.long ((g_S_divide hi ex hi2 ex2).1), .long ((g_S_divide hi ex hi2 ex2).2.1), .int ((g_S_divide hi ex hi2 ex2).2.2)])), (a5, .inr (2, [.long hi2, .long lo2, .int ex2]))]) (va_A [(a4, .inr (2, [.long hi, .long lo, .int ex])), (a5, .inr (2, [.long hi2, .long lo2, .int ex2]))] sz)) 0 0 (va_A [(a4, .inr (2, [.long hi, .long lo, .int ex])), (a5, .inr (2, [.long hi2, .long lo2, .int ex2]))] sz) := by
  refine Met.ofW (cc := b_S_divide) (maxL := 6) (ret := none) (by decide) rfl ?_
  intro p e s m args below meth c s₁ B hml hv
  obtain ⟨rfl, hsz, hP, hK, hD0, hnw⟩ := hv
  have hx := B.exec
  have hb := B.bytes
  have hr := B.returns
  have hts := atoms_spec (ws := w_S_divide) B.pre
  have htA : ∀ w ∈ wAll, w.before _ s = true := fun w h => hts w (List.mem_cons_of_mem _ h)
  have hown : s.vm.findClass R_S = some m.cls := findClass_of_methodNamed B.named
  have hlocks := B.notSynchronized
  subst hsz
  have hD := hD0.self (sz := s.heap.size)
  generalize hAe : va_A [(a4, .inr (2, [.long hi, .long lo, .int ex])), (a5, .inr (2, [.long hi2, .long lo2, .int ex2]))] s.heap.size = A at hD ⊢
  have hA : ∀ q : Nat, s.heap.size ≤ q → A q := fun q h => by rw [← hAe]; exact Or.inr h
  have hS : va_S A s.heap s.heap [] := va_S.rf
  have hP : va_P (dC, dI) classes [(a4, .inr (2, [.long hi, .long lo, .int ex])), (a5, .inr (2, [.long hi2, .long lo2, .int ex2]))] s.heap := hP
  obtain ⟨H, eH⟩ : ∃ z, z = s.heap := ⟨_, rfl⟩
  rw [← eH] at hP
  have hS : va_S A s.heap H [] := by rw [eH]; exact hS
  rw [← eH]
  generalize ([] : List Loc) = locs at hS ⊢
  have hl := lv_entry ([.ref a4, .ref a5]) (n := 6) (Nat.le_of_ble_eq_true rfl)
  rw [lg_entry_eq]
  generalize (lg_sl ([.ref a4, .ref a5]) ++ List.replicate (6 - (lg_sl ([.ref a4, .ref a5])).length) Slot.unset).toArray = ls at hl ⊢
  have hl : lv_has ls 6 [(0, .ref a4), (1, .ref a5)] := hl
  refine lv_aload_n hx hb d_S_divide_0 rfl (lv_at hl 0 rfl) ?_
  refine va_get (D := (dC, dI)) (ci := 2) (v := .long hi) (C := R_S) (T := F_S) (N := 3) hx hb htA in_S hown hK hP 0 rfl rfl 0 (by decide) (htA _ k_14) (fun _ h9 => h9) rfl d_S_divide_1 ?_
  refine lv_lstore_n (lv' := [(2, .long hi), (0, .ref a4), (1, .ref a5)]) hx hb d_S_divide_4 rfl hl (by decide) rfl (fun ls hl => ?_)
  refine lv_iconst (v := 0) hx hb d_S_divide_5 (by decide) ?_
  refine lv_istore (lv' := [(4, .int 0), (2, .long hi), (0, .ref a4), (1, .ref a5)]) hx hb d_S_divide_6 hl (by decide) rfl (fun ls hl => ?_)
  refine lv_aload_n hx hb d_S_divide_8 rfl (lv_at hl 2 rfl) ?_
  refine lv_lconst (v := 0) hx hb d_S_divide_9 (by decide) ?_
  refine va_put (D := (dC, dI)) (ci := 2) (v := .long 0) (ty := .long) (C := R_S) (T := F_S) (N := 3) hx hb htA in_S t_S t_S_ok n_S hown hK hP hD hS 0 rfl rfl 0 (by decide) (htA _ k_14) (fun _ h9 => h9) rfl (by decide +kernel) rfl rfl (Nat.le_of_ble_eq_true rfl) d_S_divide_10 (fun H locs hP hD hS => ?_)
  have hP : va_P (dC, dI) classes [(a4, .inr (2, [.long 0, .long lo, .int ex])), (a5, .inr (2, [.long hi2, .long lo2, .int ex2]))] H := hP
  have hD : va_D A [(a4, .inr (2, [.long 0, .long lo, .int ex])), (a5, .inr (2, [.long hi2, .long lo2, .int ex2]))] := hD
  refine lv_aload_n hx hb d_S_divide_13 rfl (lv_at hl 2 rfl) ?_
  refine lv_lconst (v := 0) hx hb d_S_divide_14 (by decide) ?_
  refine va_put (D := (dC, dI)) (ci := 2) (v := .long 0) (ty := .long) (C := R_S) (T := F_S) (N := 3) hx hb htA in_S t_S t_S_ok n_S hown hK hP hD hS 0 rfl rfl 1 (by decide) (htA _ k_15) (fun _ h9 => h9) rfl (by decide +kernel) rfl rfl (Nat.le_of_ble_eq_true rfl) d_S_divide_15 (fun H locs hP hD hS => ?_)
  have hP : va_P (dC, dI) classes [(a4, .inr (2, [.long 0, .long 0, .int ex])), (a5, .inr (2, [.long hi2, .long lo2, .int ex2]))] H := hP
  have hD : va_D A [(a4, .inr (2, [.long 0, .long 0, .int ex])), (a5, .inr (2, [.long hi2, .long lo2, .int ex2]))] := hD
  refine lv_iconst (v := 0) hx hb d_S_divide_18 (by decide) ?_
  refine lv_istore (lv' := [(5, .int 0), (4, .int 0), (2, .long hi), (0, .ref a4), (1, .ref a5)]) hx hb d_S_divide_19 hl (by decide) rfl (fun ls hl => ?_)
  refine loop_cut (S := Int64 × Bool × Int32 × Int64 × Int64) (nx_S_divide_21 hi2) 128 (hi, false, 0, 0, 0) (S_divide_end hi2 hi) 0 0 (fun (x : Int64 × Bool × Int32 × Int64 × Int64) (H : Heap) (locs : List Loc) (ls : Array Slot) => va_P (dC, dI) classes [(a4, .inr (2, [.long x.2.2.2.1, .long x.2.2.2.2, .int ex])), (a5, .inr (2, [.long hi2, .long lo2, .int ex2]))] H ∧ va_D A [(a4, .inr (2, [.long x.2.2.2.1, .long x.2.2.2.2, .int ex])), (a5, .inr (2, [.long hi2, .long lo2, .int ex2]))] ∧ va_S A s.heap H locs ∧ lv_has ls 6 [(0, .ref a4), (1, .ref a5), (2, .long x.1), (4, .int (b2i x.2.1)), (5, .int x.2.2.1)]) (fun x ls => F0 m 21 ls []) (fun x ls => F0 m 113 ls []) ?_ ?_ H locs ls ⟨hP.sub [0, 1] rfl, hD.sub [0, 1] (by decide) rfl, hS, lv_sub hl [3, 4, 2, 1, 0] rfl⟩
  · skip
    rintro ⟨v21_0, v21_1, v21_2, v21_3, v21_4⟩ hex hbk H locs ls ⟨hP, hD, hS, hl⟩
    have hP : va_P (dC, dI) classes [(a4, .inr (2, [.long v21_3, .long v21_4, .int ex])), (a5, .inr (2, [.long hi2, .long lo2, .int ex2]))] H := hP
    have hD : va_D A [(a4, .inr (2, [.long v21_3, .long v21_4, .int ex])), (a5, .inr (2, [.long hi2, .long lo2, .int ex2]))] := hD
    have hl : lv_has ls 6 [(0, .ref a4), (1, .ref a5), (2, .long v21_0), (4, .int (b2i v21_1)), (5, .int v21_2)] := hl
    refine lv_iload hx hb d_S_divide_21 (lv_at hl 4 rfl) ?_
    refine lv_sipush (v := 128) hx hb d_S_divide_23 (by decide) ?_
    refine lv_icmp_ge (tgt := 113) hx hb d_S_divide_26 (by decide) (fun c_26 => ?_) (fun c_26 => ?_)
    · skip
      exact hex (by clear hP hD hl hS; unfold nx_S_divide_21; (try dsimp only); rw [if_pos c_26]) H locs ls ⟨hP.sub [0, 1] rfl, hD.sub [0, 1] (by decide) rfl, hS, lv_sub hl [0, 1, 2, 3, 4] rfl⟩
    · skip
      refine lv_aload_n hx hb d_S_divide_29 rfl (lv_at hl 0 rfl) ?_
      refine lv_aload_n hx hb d_S_divide_30 rfl (lv_at hl 0 rfl) ?_
      refine va_get (D := (dC, dI)) (ci := 2) (v := .long v21_3) (C := R_S) (T := F_S) (N := 3) hx hb htA in_S hown hK hP 0 rfl rfl 0 (by decide) (htA _ k_14) (fun _ h9 => h9) rfl d_S_divide_31 ?_
      refine lv_iconst (v := 1) hx hb d_S_divide_34 (by decide) ?_
      refine lv_lshl (v := (sL v21_3 1)) hx hb d_S_divide_35 rfl ?_
      refine lv_aload_n hx hb d_S_divide_36 rfl (lv_at hl 0 rfl) ?_
      refine va_get (D := (dC, dI)) (ci := 2) (v := .long v21_4) (C := R_S) (T := F_S) (N := 3) hx hb htA in_S hown hK hP 0 rfl rfl 1 (by decide) (htA _ k_15) (fun _ h9 => h9) rfl d_S_divide_37 ?_
      refine lv_bipush (v := 63) hx hb d_S_divide_40 (by decide) ?_
      refine lv_lushr (v := (uR v21_4 63)) hx hb d_S_divide_42 rfl ?_
      refine lv_lor hx hb d_S_divide_43 ?_
      refine va_put (D := (dC, dI)) (ci := 2) (v := .long ((sL v21_3 1) ||| (uR v21_4 63))) (ty := .long) (C := R_S) (T := F_S) (N := 3) hx hb htA in_S t_S t_S_ok n_S hown hK hP hD hS 0 rfl rfl 0 (by decide) (htA _ k_14) (fun _ h9 => h9) rfl (by decide +kernel) rfl rfl (Nat.le_of_ble_eq_true rfl) d_S_divide_44 (fun H locs hP hD hS => ?_)
      have hP : va_P (dC, dI) classes [(a4, .inr (2, [.long ((sL v21_3 1) ||| (uR v21_4 63)), .long v21_4, .int ex])), (a5, .inr (2, [.long hi2, .long lo2, .int ex2]))] H := hP
      have hD : va_D A [(a4, .inr (2, [.long ((sL v21_3 1) ||| (uR v21_4 63)), .long v21_4, .int ex])), (a5, .inr (2, [.long hi2, .long lo2, .int ex2]))] := hD
      refine lv_aload_n hx hb d_S_divide_47 rfl (lv_at hl 0 rfl) ?_
      refine lv_dup hx hb d_S_divide_48 rfl ?_
      refine va_get (D := (dC, dI)) (ci := 2) (v := .long v21_4) (C := R_S) (T := F_S) (N := 3) hx hb htA in_S hown hK hP 0 rfl rfl 1 (by decide) (htA _ k_15) (fun _ h9 => h9) rfl d_S_divide_49 ?_
      refine lv_iconst (v := 1) hx hb d_S_divide_52 (by decide) ?_
      refine lv_lshl (v := (sL v21_4 1)) hx hb d_S_divide_53 rfl ?_
      refine va_put (D := (dC, dI)) (ci := 2) (v := .long (sL v21_4 1)) (ty := .long) (C := R_S) (T := F_S) (N := 3) hx hb htA in_S t_S t_S_ok n_S hown hK hP hD hS 0 rfl rfl 1 (by decide) (htA _ k_15) (fun _ h9 => h9) rfl (by decide +kernel) rfl rfl (Nat.le_of_ble_eq_true rfl) d_S_divide_54 (fun H locs hP hD hS => ?_)
      have hP : va_P (dC, dI) classes [(a4, .inr (2, [.long ((sL v21_3 1) ||| (uR v21_4 63)), .long (sL v21_4 1), .int ex])), (a5, .inr (2, [.long hi2, .long lo2, .int ex2]))] H := hP
      have hD : va_D A [(a4, .inr (2, [.long ((sL v21_3 1) ||| (uR v21_4 63)), .long (sL v21_4 1), .int ex])), (a5, .inr (2, [.long hi2, .long lo2, .int ex2]))] := hD
      refine lv_iload hx hb d_S_divide_57 (lv_at hl 3 rfl) ?_
      refine cut_join (X := Int64 × Int64) 0 0 (fun (x : Int64 × Int64) (H : Heap) (locs : List Loc) (ls : Array Slot) => (if v21_1 = true then (v21_0 - hi2) else if uN v21_0 < uN hi2 then v21_0 else (v21_0 - hi2)) = x.1 ∧ (if v21_1 = true then ((sL v21_4 1) ||| 1) else if uN v21_0 < uN hi2 then (sL v21_4 1) else ((sL v21_4 1) ||| 1)) = x.2 ∧ va_P (dC, dI) classes [(a4, .inr (2, [.long ((sL v21_3 1) ||| (uR v21_4 63)), .long x.2, .int ex])), (a5, .inr (2, [.long hi2, .long lo2, .int ex2]))] H ∧ va_D A [(a4, .inr (2, [.long ((sL v21_3 1) ||| (uR v21_4 63)), .long x.2, .int ex])), (a5, .inr (2, [.long hi2, .long lo2, .int ex2]))] ∧ va_S A s.heap H locs ∧ lv_has ls 6 [(0, .ref a4), (1, .ref a5), (2, .long x.1), (4, .int (b2i v21_1)), (5, .int v21_2)]) (fun x ls => F0 m 90 ls []) ?_ (fun J90 => ?_)
      · skip
        rintro ⟨j90_0, j90_1⟩ H locs ls ⟨ej90_0, ej90_1, hP, hD, hS, hl⟩
        have ej90_0 : (if v21_1 = true then (v21_0 - hi2) else if uN v21_0 < uN hi2 then v21_0 else (v21_0 - hi2)) = j90_0 := ej90_0
        have ej90_1 : (if v21_1 = true then ((sL v21_4 1) ||| 1) else if uN v21_0 < uN hi2 then (sL v21_4 1) else ((sL v21_4 1) ||| 1)) = j90_1 := ej90_1
        have hP : va_P (dC, dI) classes [(a4, .inr (2, [.long ((sL v21_3 1) ||| (uR v21_4 63)), .long j90_1, .int ex])), (a5, .inr (2, [.long hi2, .long lo2, .int ex2]))] H := hP
        have hD : va_D A [(a4, .inr (2, [.long ((sL v21_3 1) ||| (uR v21_4 63)), .long j90_1, .int ex])), (a5, .inr (2, [.long hi2, .long lo2, .int ex2]))] := hD
        have hl : lv_has ls 6 [(0, .ref a4), (1, .ref a5), (2, .long j90_0), (4, .int (b2i v21_1)), (5, .int v21_2)] := hl
        refine lv_lload_n hx hb d_S_divide_90 rfl (lv_at hl 2 rfl) ?_
        refine lv_lconst (v := 0) hx hb d_S_divide_91 (by decide) ?_
        refine W.lcmp hx hb d_S_divide_92 ?_
        refine cut_join (X := Bool) 0 0 (fun (x : Bool) (H : Heap) (locs : List Loc) (ls : Array Slot) => (if 0 ≤ j90_0 then false else true) = x ∧ va_P (dC, dI) classes [(a4, .inr (2, [.long ((sL v21_3 1) ||| (uR v21_4 63)), .long j90_1, .int ex])), (a5, .inr (2, [.long hi2, .long lo2, .int ex2]))] H ∧ va_D A [(a4, .inr (2, [.long ((sL v21_3 1) ||| (uR v21_4 63)), .long j90_1, .int ex])), (a5, .inr (2, [.long hi2, .long lo2, .int ex2]))] ∧ va_S A s.heap H locs ∧ lv_has ls 6 [(0, .ref a4), (1, .ref a5), (2, .long j90_0), (4, .int (b2i v21_1)), (5, .int v21_2)]) (fun x ls => F0 m 101 ls [.int (b2i x)]) ?_ (fun J101 => ?_)
        · skip
          rintro j101_0 H locs ls ⟨ej101_0, hP, hD, hS, hl⟩
          have ej101_0 : (if 0 ≤ j90_0 then false else true) = j101_0 := ej101_0
          have hP : va_P (dC, dI) classes [(a4, .inr (2, [.long ((sL v21_3 1) ||| (uR v21_4 63)), .long j90_1, .int ex])), (a5, .inr (2, [.long hi2, .long lo2, .int ex2]))] H := hP
          have hD : va_D A [(a4, .inr (2, [.long ((sL v21_3 1) ||| (uR v21_4 63)), .long j90_1, .int ex])), (a5, .inr (2, [.long hi2, .long lo2, .int ex2]))] := hD
          have hl : lv_has ls 6 [(0, .ref a4), (1, .ref a5), (2, .long j90_0), (4, .int (b2i v21_1)), (5, .int v21_2)] := hl
          refine lv_istore (lv' := [(4, .int (b2i j101_0)), (0, .ref a4), (1, .ref a5), (2, .long j90_0), (5, .int v21_2)]) hx hb d_S_divide_101 hl (by decide) rfl (fun ls hl => ?_)
          refine lv_lload_n hx hb d_S_divide_103 rfl (lv_at hl 3 rfl) ?_
          refine lv_iconst (v := 1) hx hb d_S_divide_104 (by decide) ?_
          refine lv_lshl (v := (sL j90_0 1)) hx hb d_S_divide_105 rfl ?_
          refine lv_lstore_n (lv' := [(2, .long (sL j90_0 1)), (4, .int (b2i j101_0)), (0, .ref a4), (1, .ref a5), (5, .int v21_2)]) hx hb d_S_divide_106 rfl hl (by decide) rfl (fun ls hl => ?_)
          refine lv_iinc (v := (v21_2 + 1)) (lv' := [(5, .int (v21_2 + 1)), (2, .long (sL j90_0 1)), (4, .int (b2i j101_0)), (0, .ref a4), (1, .ref a5)]) hx hb d_S_divide_107 hl (k := 4) rfl rfl (by decide) rfl (fun ls hl => ?_)
          refine lv_goto (tgt := 21) hx hb d_S_divide_110 (by decide) ?_
          exact hbk ((sL j90_0 1), j101_0, (v21_2 + 1), ((sL v21_3 1) ||| (uR v21_4 63)), j90_1) (by clear hP hD hl hS; subst ej101_0; subst ej90_1; subst ej90_0; unfold nx_S_divide_21; (try dsimp only); rw [if_neg c_26]) H locs ls ⟨hP.sub [0, 1] rfl, hD.sub [0, 1] (by decide) rfl, hS, lv_sub hl [3, 4, 1, 2, 0] rfl⟩
        · skip
          refine lv_if_ge (tgt := 100) hx hb d_S_divide_93 (by decide) (fun c_93 => ?_) (fun c_93 => ?_)
          · skip
            have c_93 : 0 ≤ j90_0 := (lg_cmp_ge _ _).mp c_93
            refine lv_iconst (v := 0) hx hb d_S_divide_100 (by decide) ?_
            exact J101 (false) H locs ls ⟨by clear hP hD hl hS; (try dsimp only); rw [if_pos c_93], hP.sub [0, 1] rfl, hD.sub [0, 1] (by decide) rfl, hS, lv_sub hl [0, 1, 2, 3, 4] rfl⟩
          · skip
            have c_93 : ¬ 0 ≤ j90_0 := fun h9 => c_93 ((lg_cmp_ge _ _).mpr h9)
            refine lv_iconst (v := 1) hx hb d_S_divide_96 (by decide) ?_
            refine lv_goto (tgt := 101) hx hb d_S_divide_97 (by decide) ?_
            exact J101 (true) H locs ls ⟨by clear hP hD hl hS; (try dsimp only); rw [if_neg c_93], hP.sub [0, 1] rfl, hD.sub [0, 1] (by decide) rfl, hS, lv_sub hl [0, 1, 2, 3, 4] rfl⟩
      · skip
        refine lv_if_ne (tgt := 73) hx hb d_S_divide_59 (by decide) (fun c_59 => ?_) (fun c_59 => ?_)
        · skip
          have c_59 : v21_1 = true := b2i_nz c_59
          refine lv_lload_n hx hb d_S_divide_73 rfl (lv_at hl 2 rfl) ?_
          refine lv_aload_n hx hb d_S_divide_74 rfl (lv_at hl 1 rfl) ?_
          refine va_get (D := (dC, dI)) (ci := 2) (v := .long hi2) (C := R_S) (T := F_S) (N := 3) hx hb htA in_S hown hK hP 1 rfl rfl 0 (by decide) (htA _ k_14) (fun _ h9 => h9) rfl d_S_divide_75 ?_
          refine lv_lsub hx hb d_S_divide_78 ?_
          refine lv_lstore_n (lv' := [(2, .long (v21_0 - hi2)), (0, .ref a4), (1, .ref a5), (4, .int (b2i v21_1)), (5, .int v21_2)]) hx hb d_S_divide_79 rfl hl (by decide) rfl (fun ls hl => ?_)
          refine lv_aload_n hx hb d_S_divide_80 rfl (lv_at hl 1 rfl) ?_
          refine lv_dup hx hb d_S_divide_81 rfl ?_
          refine va_get (D := (dC, dI)) (ci := 2) (v := .long (sL v21_4 1)) (C := R_S) (T := F_S) (N := 3) hx hb htA in_S hown hK hP 0 rfl rfl 1 (by decide) (htA _ k_15) (fun _ h9 => h9) rfl d_S_divide_82 ?_
          refine lv_lconst (v := 1) hx hb d_S_divide_85 (by decide) ?_
          refine lv_lor hx hb d_S_divide_86 ?_
          refine va_put (D := (dC, dI)) (ci := 2) (v := .long ((sL v21_4 1) ||| 1)) (ty := .long) (C := R_S) (T := F_S) (N := 3) hx hb htA in_S t_S t_S_ok n_S hown hK hP hD hS 0 rfl rfl 1 (by decide) (htA _ k_15) (fun _ h9 => h9) rfl (by decide +kernel) rfl rfl (Nat.le_of_ble_eq_true rfl) d_S_divide_87 (fun H locs hP hD hS => ?_)
          have hP : va_P (dC, dI) classes [(a4, .inr (2, [.long ((sL v21_3 1) ||| (uR v21_4 63)), .long ((sL v21_4 1) ||| 1), .int ex])), (a5, .inr (2, [.long hi2, .long lo2, .int ex2]))] H := hP
          have hD : va_D A [(a4, .inr (2, [.long ((sL v21_3 1) ||| (uR v21_4 63)), .long ((sL v21_4 1) ||| 1), .int ex])), (a5, .inr (2, [.long hi2, .long lo2, .int ex2]))] := hD
          exact J90 ((v21_0 - hi2), ((sL v21_4 1) ||| 1)) H locs ls ⟨by clear hP hD hl hS; (try dsimp only); rw [if_pos c_59], by clear hP hD hl hS; (try dsimp only); rw [if_pos c_59], hP.sub [0, 1] rfl, hD.sub [0, 1] (by decide) rfl, hS, lv_sub hl [1, 2, 0, 3, 4] rfl⟩
        · skip
          have c_59 : ¬ v21_1 = true := b2i_z c_59
          refine lv_lload_n hx hb d_S_divide_62 rfl (lv_at hl 2 rfl) ?_
          refine lv_aload_n hx hb d_S_divide_63 rfl (lv_at hl 1 rfl) ?_
          refine va_get (D := (dC, dI)) (ci := 2) (v := .long hi2) (C := R_S) (T := F_S) (N := 3) hx hb htA in_S hown hK hP 1 rfl rfl 0 (by decide) (htA _ k_14) (fun _ h9 => h9) rfl d_S_divide_64 ?_
          have hPc := hP.sub (ws' := []) [] rfl
          have hDc := hD.sub (ws' := []) [] (by decide) rfl
          have hKc := hK.sub (tys' := []) [] rfl
          have hFc := va_free (wc := []) hD hS hA [] rfl
          refine cc_i (va_runS (As := [.long v21_0, .long hi2]) (rest := []) ⟨hx, hb, hml, hown, htA⟩ (c_Lg_compareUnsigned l dC dI H.size v21_0 hi2) (va_cwS 2 htA (gi_S k_33 k_34 k_2 (gi_code k_5)) rfl rfl rfl (by decide +kernel) ⟨Nat.le_of_ble_eq_true rfl, Nat.le_of_ble_eq_true rfl⟩) (pre_S hnw hPc hKc hDc) rfl rfl hl.1 rfl (lv_room (Nat.le_of_ble_eq_true rfl)) d_S_divide_67 ⟨Nat.le_of_ble_eq_true rfl, Nat.le_of_ble_eq_true rfl⟩) hS hFc hP hD [] [0, 1] (wr := [(a4, .inr (2, [.long ((sL v21_3 1) ||| (uR v21_4 63)), .long (sL v21_4 1), .int ex])), (a5, .inr (2, [.long hi2, .long lo2, .int ex2]))]) rfl rfl (by decide) (by decide) (fun H locs hP hD hS => ?_)
          have hP : va_P (dC, dI) classes [(a4, .inr (2, [.long ((sL v21_3 1) ||| (uR v21_4 63)), .long (sL v21_4 1), .int ex])), (a5, .inr (2, [.long hi2, .long lo2, .int ex2]))] H := hP
          have hD : va_D A [(a4, .inr (2, [.long ((sL v21_3 1) ||| (uR v21_4 63)), .long (sL v21_4 1), .int ex])), (a5, .inr (2, [.long hi2, .long lo2, .int ex2]))] := hD
          refine lv_if_lt (tgt := 90) hx hb d_S_divide_70 (by decide) (fun c_70 => ?_) (fun c_70 => ?_)
          · skip
            have c_70 : uN v21_0 < uN hi2 := (cU_lt _ _).mp c_70
            exact J90 (v21_0, (sL v21_4 1)) H locs ls ⟨by clear hP hD hl hS; (try dsimp only); rw [if_neg c_59, if_pos c_70], by clear hP hD hl hS; (try dsimp only); rw [if_neg c_59, if_pos c_70], hP.sub [0, 1] rfl, hD.sub [0, 1] (by decide) rfl, hS, lv_sub hl [0, 1, 2, 3, 4] rfl⟩
          · skip
            have c_70 : ¬ uN v21_0 < uN hi2 := fun h9 => c_70 ((cU_lt _ _).mpr h9)
            refine lv_lload_n hx hb d_S_divide_73 rfl (lv_at hl 2 rfl) ?_
            refine lv_aload_n hx hb d_S_divide_74 rfl (lv_at hl 1 rfl) ?_
            refine va_get (D := (dC, dI)) (ci := 2) (v := .long hi2) (C := R_S) (T := F_S) (N := 3) hx hb htA in_S hown hK hP 1 rfl rfl 0 (by decide) (htA _ k_14) (fun _ h9 => h9) rfl d_S_divide_75 ?_
            refine lv_lsub hx hb d_S_divide_78 ?_
            refine lv_lstore_n (lv' := [(2, .long (v21_0 - hi2)), (0, .ref a4), (1, .ref a5), (4, .int (b2i v21_1)), (5, .int v21_2)]) hx hb d_S_divide_79 rfl hl (by decide) rfl (fun ls hl => ?_)
            refine lv_aload_n hx hb d_S_divide_80 rfl (lv_at hl 1 rfl) ?_
            refine lv_dup hx hb d_S_divide_81 rfl ?_
            refine va_get (D := (dC, dI)) (ci := 2) (v := .long (sL v21_4 1)) (C := R_S) (T := F_S) (N := 3) hx hb htA in_S hown hK hP 0 rfl rfl 1 (by decide) (htA _ k_15) (fun _ h9 => h9) rfl d_S_divide_82 ?_
            refine lv_lconst (v := 1) hx hb d_S_divide_85 (by decide) ?_
            refine lv_lor hx hb d_S_divide_86 ?_
            refine va_put (D := (dC, dI)) (ci := 2) (v := .long ((sL v21_4 1) ||| 1)) (ty := .long) (C := R_S) (T := F_S) (N := 3) hx hb htA in_S t_S t_S_ok n_S hown hK hP hD hS 0 rfl rfl 1 (by decide) (htA _ k_15) (fun _ h9 => h9) rfl (by decide +kernel) rfl rfl (Nat.le_of_ble_eq_true rfl) d_S_divide_87 (fun H locs hP hD hS => ?_)
            have hP : va_P (dC, dI) classes [(a4, .inr (2, [.long ((sL v21_3 1) ||| (uR v21_4 63)), .long ((sL v21_4 1) ||| 1), .int ex])), (a5, .inr (2, [.long hi2, .long lo2, .int ex2]))] H := hP
            have hD : va_D A [(a4, .inr (2, [.long ((sL v21_3 1) ||| (uR v21_4 63)), .long ((sL v21_4 1) ||| 1), .int ex])), (a5, .inr (2, [.long hi2, .long lo2, .int ex2]))] := hD
            exact J90 ((v21_0 - hi2), ((sL v21_4 1) ||| 1)) H locs ls ⟨by clear hP hD hl hS; (try dsimp only); rw [if_neg c_59, if_neg c_70], by clear hP hD hl hS; (try dsimp only); rw [if_neg c_59, if_neg c_70], hP.sub [0, 1] rfl, hD.sub [0, 1] (by decide) rfl, hS, lv_sub hl [1, 2, 0, 3, 4] rfl⟩
  · skip
    rintro ⟨v21_0, v21_1, v21_2, v21_3, v21_4⟩ H locs ls ev ⟨hP, hD, hS, hl⟩
    have ev21_0 : (lrun (nx_S_divide_21 hi2) 128 (hi, false, 0, 0, 0)).1 = v21_0 := by rw [← ev]
    have ev21_1 : (lrun (nx_S_divide_21 hi2) 128 (hi, false, 0, 0, 0)).2.1 = v21_1 := by rw [← ev]
    have ev21_2 : (lrun (nx_S_divide_21 hi2) 128 (hi, false, 0, 0, 0)).2.2.1 = v21_2 := by rw [← ev]
    have ev21_3 : (lrun (nx_S_divide_21 hi2) 128 (hi, false, 0, 0, 0)).2.2.2.1 = v21_3 := by rw [← ev]
    have ev21_4 : (lrun (nx_S_divide_21 hi2) 128 (hi, false, 0, 0, 0)).2.2.2.2 = v21_4 := by rw [← ev]
    clear ev
    have hP : va_P (dC, dI) classes [(a4, .inr (2, [.long v21_3, .long v21_4, .int ex])), (a5, .inr (2, [.long hi2, .long lo2, .int ex2]))] H := hP
    have hD : va_D A [(a4, .inr (2, [.long v21_3, .long v21_4, .int ex])), (a5, .inr (2, [.long hi2, .long lo2, .int ex2]))] := hD
    have hl : lv_has ls 6 [(0, .ref a4), (1, .ref a5), (2, .long v21_0), (4, .int (b2i v21_1)), (5, .int v21_2)] := hl
    refine lv_iload hx hb d_S_divide_113 (lv_at hl 3 rfl) ?_
    refine cut_join (X := Int64) 0 0 (fun (x : Int64) (H : Heap) (locs : List Loc) (ls : Array Slot) => (if v21_1 = true then (v21_4 ||| 1) else if v21_0 = 0 then v21_4 else (v21_4 ||| 1)) = x ∧ va_P (dC, dI) classes [(a4, .inr (2, [.long v21_3, .long x, .int ex])), (a5, .inr (2, [.long hi2, .long lo2, .int ex2]))] H ∧ va_D A [(a4, .inr (2, [.long v21_3, .long x, .int ex])), (a5, .inr (2, [.long hi2, .long lo2, .int ex2]))] ∧ va_S A s.heap H locs ∧ lv_has ls 6 [(0, .ref a4), (1, .ref a5), (2, .long v21_0), (4, .int (b2i v21_1)), (5, .int v21_2)]) (fun x ls => F0 m 134 ls []) ?_ (fun J134 => ?_)
    · skip
      rintro j134_0 H locs ls ⟨ej134_0, hP, hD, hS, hl⟩
      have ej134_0 : (if v21_1 = true then (v21_4 ||| 1) else if v21_0 = 0 then v21_4 else (v21_4 ||| 1)) = j134_0 := ej134_0
      have hP : va_P (dC, dI) classes [(a4, .inr (2, [.long v21_3, .long j134_0, .int ex])), (a5, .inr (2, [.long hi2, .long lo2, .int ex2]))] H := hP
      have hD : va_D A [(a4, .inr (2, [.long v21_3, .long j134_0, .int ex])), (a5, .inr (2, [.long hi2, .long lo2, .int ex2]))] := hD
      have hl : lv_has ls 6 [(0, .ref a4), (1, .ref a5), (2, .long v21_0), (4, .int (b2i v21_1)), (5, .int v21_2)] := hl
      refine lv_aload_n hx hb d_S_divide_134 rfl (lv_at hl 0 rfl) ?_
      refine lv_dup hx hb d_S_divide_135 rfl ?_
      refine va_get (D := (dC, dI)) (ci := 2) (v := .int ex) (C := R_S) (T := F_S) (N := 3) hx hb htA in_S hown hK hP 0 rfl rfl 2 (by decide) (htA _ k_16) (fun _ h9 => h9) rfl d_S_divide_136 ?_
      refine lv_aload_n hx hb d_S_divide_139 rfl (lv_at hl 1 rfl) ?_
      refine va_get (D := (dC, dI)) (ci := 2) (v := .int ex2) (C := R_S) (T := F_S) (N := 3) hx hb htA in_S hown hK hP 1 rfl rfl 2 (by decide) (htA _ k_16) (fun _ h9 => h9) rfl d_S_divide_140 ?_
      refine lv_bipush (v := 63) hx hb d_S_divide_143 (by decide) ?_
      refine lv_iadd hx hb d_S_divide_145 ?_
      refine lv_isub hx hb d_S_divide_146 ?_
      refine va_put (D := (dC, dI)) (ci := 2) (v := .int (ex - (ex2 + 63))) (ty := .int) (C := R_S) (T := F_S) (N := 3) hx hb htA in_S t_S t_S_ok n_S hown hK hP hD hS 0 rfl rfl 2 (by decide) (htA _ k_16) (fun _ h9 => h9) rfl (by decide +kernel) rfl rfl (Nat.le_of_ble_eq_true rfl) d_S_divide_147 (fun H locs hP hD hS => ?_)
      have hP : va_P (dC, dI) classes [(a4, .inr (2, [.long v21_3, .long j134_0, .int (ex - (ex2 + 63))])), (a5, .inr (2, [.long hi2, .long lo2, .int ex2]))] H := hP
      have hD : va_D A [(a4, .inr (2, [.long v21_3, .long j134_0, .int (ex - (ex2 + 63))])), (a5, .inr (2, [.long hi2, .long lo2, .int ex2]))] := hD
      refine lv_aload_n hx hb d_S_divide_150 rfl (lv_at hl 0 rfl) ?_
      have hPc := hP.sub (ws' := [(a4, .inr (2, [.long v21_3, .long j134_0, .int (ex - (ex2 + 63))]))]) [0] rfl
      have hDc := hD.sub (ws' := [(a4, .inr (2, [.long v21_3, .long j134_0, .int (ex - (ex2 + 63))]))]) [0] (by decide) rfl
      have hKc := hK.sub (tys' := []) [] rfl
      have hFc := va_free (wc := [(a4, .inr (2, [.long v21_3, .long j134_0, .int (ex - (ex2 + 63))]))]) hD hS hA [0] rfl
      refine cc_v (va_runV (As := []) (rest := []) ⟨hx, hb, hml, hown, htA⟩ (c_S_normalize l dC dI a4 H.size v21_3 j134_0 (ex - (ex2 + 63))) (cwV 0 htA (gi_V k_45 k_46 k_47 k_36 (gi_code k_40)) rfl rfl rfl (by decide +kernel) ⟨Nat.le_of_ble_eq_true rfl, Nat.le_of_ble_eq_true rfl⟩) (pre_V hnw hPc hKc hDc (ci := 2) (q0 := 0) rfl rfl) rfl rfl hl.1 rfl (lv_room (Nat.le_of_ble_eq_true rfl)) d_S_divide_151 ⟨Nat.le_of_ble_eq_true rfl, Nat.le_of_ble_eq_true rfl⟩) hS hFc hP hD [0] [1] (wr := [(a5, .inr (2, [.long hi2, .long lo2, .int ex2]))]) rfl rfl (by decide) (by decide) (fun H locs hP hD hS => ?_)
      obtain ⟨z151, ez151⟩ : ∃ z, g_S_normalize v21_3 j134_0 (ex - (ex2 + 63)) = z := ⟨_, rfl⟩
      rw [ez151] at hP hD
      have hP : va_P (dC, dI) classes [(a5, .inr (2, [.long hi2, .long lo2, .int ex2])), (a4, .inr (2, [.long z151.1, .long z151.2.1, .int z151.2.2]))] H := hP
      have hD : va_D A [(a5, .inr (2, [.long hi2, .long lo2, .int ex2])), (a4, .inr (2, [.long z151.1, .long z151.2.1, .int z151.2.2]))] := hD
      have hE : g_S_divide hi ex hi2 ex2 = (z151.1, z151.2.1, z151.2.2) := by clear hP hD hl hS; subst ez151; subst ej134_0; subst ev21_4; subst ev21_3; subst ev21_2; subst ev21_1; subst ev21_0; unfold g_S_divide; rfl
      have hP9 : va_P (dC, dI) classes [(a4, .inr (2, [.long ((g_S_divide hi ex hi2 ex2).1), .long ((g_S_divide hi ex hi2 ex2).2.1), .int ((g_S_divide hi ex hi2 ex2).2.2)])), (a5, .inr (2, [.long hi2, .long lo2, .int ex2]))] H := by rw [hE]; exact hP.sub [1, 0] rfl
      have hD9 : va_D A [(a4, .inr (2, [.long ((g_S_divide hi ex hi2 ex2).1), .long ((g_S_divide hi ex hi2 ex2).2.1), .int ((g_S_divide hi ex hi2 ex2).2.2)])), (a5, .inr (2, [.long hi2, .long lo2, .int ex2]))] := by rw [hE]; exact hD.sub [1, 0] (by decide) rfl
      exact W.vret hx hb hr (fun t ht hW => ⟨⟨(), rfl, trivial, by rw [ht]; exact hP9, hD9⟩, hS.F ht⟩) hS.2.2 d_S_divide_154
    · skip
      refine lv_if_ne (tgt := 124) hx hb d_S_divide_115 (by decide) (fun c_115 => ?_) (fun c_115 => ?_)
      · skip
        have c_115 : v21_1 = true := b2i_nz c_115
        refine lv_aload_n hx hb d_S_divide_124 rfl (lv_at hl 0 rfl) ?_
        refine lv_dup hx hb d_S_divide_125 rfl ?_
        refine va_get (D := (dC, dI)) (ci := 2) (v := .long v21_4) (C := R_S) (T := F_S) (N := 3) hx hb htA in_S hown hK hP 0 rfl rfl 1 (by decide) (htA _ k_15) (fun _ h9 => h9) rfl d_S_divide_126 ?_
        refine lv_lconst (v := 1) hx hb d_S_divide_129 (by decide) ?_
        refine lv_lor hx hb d_S_divide_130 ?_
        refine va_put (D := (dC, dI)) (ci := 2) (v := .long (v21_4 ||| 1)) (ty := .long) (C := R_S) (T := F_S) (N := 3) hx hb htA in_S t_S t_S_ok n_S hown hK hP hD hS 0 rfl rfl 1 (by decide) (htA _ k_15) (fun _ h9 => h9) rfl (by decide +kernel) rfl rfl (Nat.le_of_ble_eq_true rfl) d_S_divide_131 (fun H locs hP hD hS => ?_)
        have hP : va_P (dC, dI) classes [(a4, .inr (2, [.long v21_3, .long (v21_4 ||| 1), .int ex])), (a5, .inr (2, [.long hi2, .long lo2, .int ex2]))] H := hP
        have hD : va_D A [(a4, .inr (2, [.long v21_3, .long (v21_4 ||| 1), .int ex])), (a5, .inr (2, [.long hi2, .long lo2, .int ex2]))] := hD
        exact J134 ((v21_4 ||| 1)) H locs ls ⟨by clear hP hD hl hS; (try dsimp only); rw [if_pos c_115], hP.sub [0, 1] rfl, hD.sub [0, 1] (by decide) rfl, hS, lv_sub hl [0, 1, 2, 3, 4] rfl⟩
      · skip
        have c_115 : ¬ v21_1 = true := b2i_z c_115
        refine lv_lload_n hx hb d_S_divide_118 rfl (lv_at hl 2 rfl) ?_
        refine lv_lconst (v := 0) hx hb d_S_divide_119 (by decide) ?_
        refine W.lcmp hx hb d_S_divide_120 ?_
        refine lv_if_eq (tgt := 134) hx hb d_S_divide_121 (by decide) (fun c_121 => ?_) (fun c_121 => ?_)
        · skip
          have c_121 : v21_0 = 0 := (lg_cmp_eq _ _).mp c_121
          exact J134 (v21_4) H locs ls ⟨by clear hP hD hl hS; (try dsimp only); rw [if_neg c_115, if_pos c_121], hP.sub [0, 1] rfl, hD.sub [0, 1] (by decide) rfl, hS, lv_sub hl [0, 1, 2, 3, 4] rfl⟩
        · skip
          have c_121 : ¬ v21_0 = 0 := fun h9 => c_121 ((lg_cmp_eq _ _).mpr h9)
          refine lv_aload_n hx hb d_S_divide_124 rfl (lv_at hl 0 rfl) ?_
          refine lv_dup hx hb d_S_divide_125 rfl ?_
          refine va_get (D := (dC, dI)) (ci := 2) (v := .long v21_4) (C := R_S) (T := F_S) (N := 3) hx hb htA in_S hown hK hP 0 rfl rfl 1 (by decide) (htA _ k_15) (fun _ h9 => h9) rfl d_S_divide_126 ?_
          refine lv_lconst (v := 1) hx hb d_S_divide_129 (by decide) ?_
          refine lv_lor hx hb d_S_divide_130 ?_
          refine va_put (D := (dC, dI)) (ci := 2) (v := .long (v21_4 ||| 1)) (ty := .long) (C := R_S) (T := F_S) (N := 3) hx hb htA in_S t_S t_S_ok n_S hown hK hP hD hS 0 rfl rfl 1 (by decide) (htA _ k_15) (fun _ h9 => h9) rfl (by decide +kernel) rfl rfl (Nat.le_of_ble_eq_true rfl) d_S_divide_131 (fun H locs hP hD hS => ?_)
          have hP : va_P (dC, dI) classes [(a4, .inr (2, [.long v21_3, .long (v21_4 ||| 1), .int ex])), (a5, .inr (2, [.long hi2, .long lo2, .int ex2]))] H := hP
          have hD : va_D A [(a4, .inr (2, [.long v21_3, .long (v21_4 ||| 1), .int ex])), (a5, .inr (2, [.long hi2, .long lo2, .int ex2]))] := hD
          exact J134 ((v21_4 ||| 1)) H locs ls ⟨by clear hP hD hl hS; (try dsimp only); rw [if_neg c_115, if_neg c_121], hP.sub [0, 1] rfl, hD.sub [0, 1] (by decide) rfl, hS, lv_sub hl [0, 1, 2, 3, 4] rfl⟩
theorem d_S_isAbove_0 : decode b_S_isAbove 0 = .ok (.aload_n 0, 1) := by decide +kernel
theorem d_S_isAbove_1 : decode b_S_isAbove 1 = .ok (.getfield 9, 3) := by decide +kernel
theorem d_S_isAbove_4 : decode b_S_isAbove 4 = .ok (.lload_n 1, 1) := by decide +kernel
theorem d_S_isAbove_5 : decode b_S_isAbove 5 = .ok (.invokestatic 39, 3) := by decide +kernel
theorem d_S_isAbove_8 : decode b_S_isAbove 8 = .ok (.istore 5, 2) := by decide +kernel
theorem d_S_isAbove_10 : decode b_S_isAbove 10 = .ok (.iload 5, 2) := by decide +kernel
theorem d_S_isAbove_12 : decode b_S_isAbove 12 = .ok (.ifCond .gt 19, 3) := by decide +kernel
theorem d_S_isAbove_31 : decode b_S_isAbove 31 = .ok (.iconst 1, 1) := by decide +kernel
theorem d_S_isAbove_32 : decode b_S_isAbove 32 = .ok (.goto 4, 3) := by decide +kernel
theorem d_S_isAbove_15 : decode b_S_isAbove 15 = .ok (.iload 5, 2) := by decide +kernel
theorem d_S_isAbove_17 : decode b_S_isAbove 17 = .ok (.ifCond .ne 18, 3) := by decide +kernel
theorem d_S_isAbove_35 : decode b_S_isAbove 35 = .ok (.iconst 0, 1) := by decide +kernel
theorem d_S_isAbove_20 : decode b_S_isAbove 20 = .ok (.aload_n 0, 1) := by decide +kernel
theorem d_S_isAbove_21 : decode b_S_isAbove 21 = .ok (.getfield 15, 3) := by decide +kernel
theorem d_S_isAbove_24 : decode b_S_isAbove 24 = .ok (.lload_n 3, 1) := by decide +kernel
theorem d_S_isAbove_25 : decode b_S_isAbove 25 = .ok (.invokestatic 39, 3) := by decide +kernel
theorem d_S_isAbove_28 : decode b_S_isAbove 28 = .ok (.ifCond .le 7, 3) := by decide +kernel
theorem d_S_isAbove_36 : decode b_S_isAbove 36 = .ok (.ireturn, 1) := by decide +kernel
set_option maxHeartbeats 4000000 in
set_option maxRecDepth 100000 in
theorem c_S_isAbove (l : Launch) (dC : Nat → ClassId) (dI : Nat → Nat → Nat) (a4 : Nat) (sz : Nat) (hi : Int64) (lo : Int64) (ex : Int32) (jh : Int64) (jl : Int64) : Met l y_S_isAbove w_S_isAbove ({ frames := 2, cells := 0, slots := 0, locals := 46 }) (cPc (dC, dI) [] [.ref a4, .long jh, .long jl] [(a4, .inr (2, [.long hi, .long lo, .int ex]))] sz) (va_Qi (fun (r : Int32) (_ : Unit) => r = b2i ((g_S_isAbove hi lo jh jl))) (fun _ t => va_P (dC, dI) classes [(a4, .inr (2, [.long hi, .long lo, .int ex]))] t.heap ∧ va_D (va_A [(a4, .inr (2, [.long hi, .long lo, .int ex]))] sz) [(a4, .inr (2, [.long hi, .long lo, .int ex]))]) (va_A [(a4, .inr (2, [.long hi, .long lo, .int ex]))] sz)) 0 0 (va_A [(a4, .inr (2, [.long hi, .long lo, .int ex]))] sz) := by
  refine Met.ofW (cc := b_S_isAbove) (maxL := 6) (ret := (some .boolean)) (by decide) rfl ?_
  intro p e s m args below meth c s₁ B hml hv
  obtain ⟨rfl, hsz, hP, hK, hD0, hnw⟩ := hv
  have hx := B.exec
  have hb := B.bytes
  have hr := B.returns
  have hts := atoms_spec (ws := w_S_isAbove) B.pre
  have htA : ∀ w ∈ wAll, w.before _ s = true := fun w h => hts w (List.mem_cons_of_mem _ h)
  have hown : s.vm.findClass R_S = some m.cls := findClass_of_methodNamed B.named
  have hlocks := B.notSynchronized
  subst hsz
  have hD := hD0.self (sz := s.heap.size)
  generalize hAe : va_A [(a4, .inr (2, [.long hi, .long lo, .int ex]))] s.heap.size = A at hD ⊢
  have hA : ∀ q : Nat, s.heap.size ≤ q → A q := fun q h => by rw [← hAe]; exact Or.inr h
  have hS : va_S A s.heap s.heap [] := va_S.rf
  have hP : va_P (dC, dI) classes [(a4, .inr (2, [.long hi, .long lo, .int ex]))] s.heap := hP
  obtain ⟨H, eH⟩ : ∃ z, z = s.heap := ⟨_, rfl⟩
  rw [← eH] at hP
  have hS : va_S A s.heap H [] := by rw [eH]; exact hS
  rw [← eH]
  generalize ([] : List Loc) = locs at hS ⊢
  have hl := lv_entry ([.ref a4, .long jh, .long jl]) (n := 6) (Nat.le_of_ble_eq_true rfl)
  rw [lg_entry_eq]
  generalize (lg_sl ([.ref a4, .long jh, .long jl]) ++ List.replicate (6 - (lg_sl ([.ref a4, .long jh, .long jl])).length) Slot.unset).toArray = ls at hl ⊢
  have hl : lv_has ls 6 [(0, .ref a4), (1, .long jh), (3, .long jl)] := hl
  refine lv_aload_n hx hb d_S_isAbove_0 rfl (lv_at hl 0 rfl) ?_
  refine va_get (D := (dC, dI)) (ci := 2) (v := .long hi) (C := R_S) (T := F_S) (N := 3) hx hb htA in_S hown hK hP 0 rfl rfl 0 (by decide) (htA _ k_14) (fun _ h9 => h9) rfl d_S_isAbove_1 ?_
  refine lv_lload_n hx hb d_S_isAbove_4 rfl (lv_at hl 1 rfl) ?_
  have hPc := hP.sub (ws' := []) [] rfl
  have hDc := hD.sub (ws' := []) [] (by decide) rfl
  have hKc := hK.sub (tys' := []) [] rfl
  have hFc := va_free (wc := []) hD hS hA [] rfl
  refine cc_i (va_runS (As := [.long hi, .long jh]) (rest := []) ⟨hx, hb, hml, hown, htA⟩ (c_Lg_compareUnsigned l dC dI H.size hi jh) (va_cwS 2 htA (gi_S k_33 k_34 k_2 (gi_code k_5)) rfl rfl rfl (by decide +kernel) ⟨Nat.le_of_ble_eq_true rfl, Nat.le_of_ble_eq_true rfl⟩) (pre_S hnw hPc hKc hDc) rfl rfl hl.1 rfl (lv_room (Nat.le_of_ble_eq_true rfl)) d_S_isAbove_5 ⟨Nat.le_of_ble_eq_true rfl, Nat.le_of_ble_eq_true rfl⟩) hS hFc hP hD [] [0] (wr := [(a4, .inr (2, [.long hi, .long lo, .int ex]))]) rfl rfl (by decide) (by decide) (fun H locs hP hD hS => ?_)
  have hP : va_P (dC, dI) classes [(a4, .inr (2, [.long hi, .long lo, .int ex]))] H := hP
  have hD : va_D A [(a4, .inr (2, [.long hi, .long lo, .int ex]))] := hD
  refine lv_istore (lv' := [(5, .int (g_Lg_compareUnsigned hi jh)), (0, .ref a4), (1, .long jh), (3, .long jl)]) hx hb d_S_isAbove_8 hl (by decide) rfl (fun ls hl => ?_)
  refine lv_iload hx hb d_S_isAbove_10 (lv_at hl 0 rfl) ?_
  refine cut_join (X := Bool) 0 0 (fun (x : Bool) (H : Heap) (locs : List Loc) (ls : Array Slot) => (if uN jh < uN hi then true else if uN hi = uN jh then if uN lo ≤ uN jl then false else true else false) = x ∧ va_P (dC, dI) classes [(a4, .inr (2, [.long hi, .long lo, .int ex]))] H ∧ va_D A [(a4, .inr (2, [.long hi, .long lo, .int ex]))] ∧ va_S A s.heap H locs ∧ lv_has ls 6 [(0, .ref a4), (1, .long jh), (3, .long jl), (5, .int (g_Lg_compareUnsigned hi jh))]) (fun x ls => F0 m 36 ls [.int (b2i x)]) ?_ (fun J36 => ?_)
  · skip
    rintro j36_0 H locs ls ⟨ej36_0, hP, hD, hS, hl⟩
    have ej36_0 : (if uN jh < uN hi then true else if uN hi = uN jh then if uN lo ≤ uN jl then false else true else false) = j36_0 := ej36_0
    have hP : va_P (dC, dI) classes [(a4, .inr (2, [.long hi, .long lo, .int ex]))] H := hP
    have hD : va_D A [(a4, .inr (2, [.long hi, .long lo, .int ex]))] := hD
    have hl : lv_has ls 6 [(0, .ref a4), (1, .long jh), (3, .long jl), (5, .int (g_Lg_compareUnsigned hi jh))] := hl
    have hE : g_S_isAbove hi lo jh jl = (j36_0) := by clear hP hD hl hS; subst ej36_0; unfold g_S_isAbove; rfl
    have hP9 : va_P (dC, dI) classes [(a4, .inr (2, [.long hi, .long lo, .int ex]))] H := by exact hP.sub [0] rfl
    have hD9 : va_D A [(a4, .inr (2, [.long hi, .long lo, .int ex]))] := by exact hD.sub [0] (by decide) rfl
    exact W.zret (v := (b2i j36_0)) hx hb hr (by first | exact nar_b2i _ | rfl) (fun t ht hW => ⟨⟨(b2i j36_0), (), rfl, by rw [hE], by rw [ht]; exact hP9, hD9⟩, hS.F ht⟩) hS.2.2 d_S_isAbove_36
  · skip
    refine lv_if_gt (tgt := 31) hx hb d_S_isAbove_12 (by decide) (fun c_12 => ?_) (fun c_12 => ?_)
    · skip
      have c_12 : uN jh < uN hi := (cU_gt _ _).mp c_12
      refine lv_iconst (v := 1) hx hb d_S_isAbove_31 (by decide) ?_
      refine lv_goto (tgt := 36) hx hb d_S_isAbove_32 (by decide) ?_
      exact J36 (true) H locs ls ⟨by clear hP hD hl hS; (try dsimp only); rw [if_pos c_12], hP.sub [0] rfl, hD.sub [0] (by decide) rfl, hS, lv_sub hl [1, 2, 3, 0] rfl⟩
    · skip
      have c_12 : ¬ uN jh < uN hi := fun h9 => c_12 ((cU_gt _ _).mpr h9)
      refine lv_iload hx hb d_S_isAbove_15 (lv_at hl 0 rfl) ?_
      refine lv_if_ne (tgt := 35) hx hb d_S_isAbove_17 (by decide) (fun c_17 => ?_) (fun c_17 => ?_)
      · skip
        have c_17 : ¬ uN hi = uN jh := fun h9 => c_17 ((cU_eq _ _).mpr h9)
        refine lv_iconst (v := 0) hx hb d_S_isAbove_35 (by decide) ?_
        exact J36 (false) H locs ls ⟨by clear hP hD hl hS; (try dsimp only); rw [if_neg c_12, if_neg c_17], hP.sub [0] rfl, hD.sub [0] (by decide) rfl, hS, lv_sub hl [1, 2, 3, 0] rfl⟩
      · skip
        have c_17 : uN hi = uN jh := (cU_eq _ _).mp c_17
        refine lv_aload_n hx hb d_S_isAbove_20 rfl (lv_at hl 1 rfl) ?_
        refine va_get (D := (dC, dI)) (ci := 2) (v := .long lo) (C := R_S) (T := F_S) (N := 3) hx hb htA in_S hown hK hP 0 rfl rfl 1 (by decide) (htA _ k_15) (fun _ h9 => h9) rfl d_S_isAbove_21 ?_
        refine lv_lload_n hx hb d_S_isAbove_24 rfl (lv_at hl 3 rfl) ?_
        have hPc := hP.sub (ws' := []) [] rfl
        have hDc := hD.sub (ws' := []) [] (by decide) rfl
        have hKc := hK.sub (tys' := []) [] rfl
        have hFc := va_free (wc := []) hD hS hA [] rfl
        refine cc_i (va_runS (As := [.long lo, .long jl]) (rest := []) ⟨hx, hb, hml, hown, htA⟩ (c_Lg_compareUnsigned l dC dI H.size lo jl) (va_cwS 2 htA (gi_S k_33 k_34 k_2 (gi_code k_5)) rfl rfl rfl (by decide +kernel) ⟨Nat.le_of_ble_eq_true rfl, Nat.le_of_ble_eq_true rfl⟩) (pre_S hnw hPc hKc hDc) rfl rfl hl.1 rfl (lv_room (Nat.le_of_ble_eq_true rfl)) d_S_isAbove_25 ⟨Nat.le_of_ble_eq_true rfl, Nat.le_of_ble_eq_true rfl⟩) hS hFc hP hD [] [0] (wr := [(a4, .inr (2, [.long hi, .long lo, .int ex]))]) rfl rfl (by decide) (by decide) (fun H locs hP hD hS => ?_)
        have hP : va_P (dC, dI) classes [(a4, .inr (2, [.long hi, .long lo, .int ex]))] H := hP
        have hD : va_D A [(a4, .inr (2, [.long hi, .long lo, .int ex]))] := hD
        refine lv_if_le (tgt := 35) hx hb d_S_isAbove_28 (by decide) (fun c_28 => ?_) (fun c_28 => ?_)
        · skip
          have c_28 : uN lo ≤ uN jl := (cU_le _ _).mp c_28
          refine lv_iconst (v := 0) hx hb d_S_isAbove_35 (by decide) ?_
          exact J36 (false) H locs ls ⟨by clear hP hD hl hS; (try dsimp only); rw [if_neg c_12, if_pos c_17, if_pos c_28], hP.sub [0] rfl, hD.sub [0] (by decide) rfl, hS, lv_sub hl [1, 2, 3, 0] rfl⟩
        · skip
          have c_28 : ¬ uN lo ≤ uN jl := fun h9 => c_28 ((cU_le _ _).mpr h9)
          refine lv_iconst (v := 1) hx hb d_S_isAbove_31 (by decide) ?_
          refine lv_goto (tgt := 36) hx hb d_S_isAbove_32 (by decide) ?_
          exact J36 (true) H locs ls ⟨by clear hP hD hl hS; (try dsimp only); rw [if_neg c_12, if_pos c_17, if_neg c_28], hP.sub [0] rfl, hD.sub [0] (by decide) rfl, hS, lv_sub hl [1, 2, 3, 0] rfl⟩
theorem d_S_digitsBelowRoot_0 : decode b_S_digitsBelowRoot 0 = .ok (.lload_n 2, 1) := by decide +kernel
theorem d_S_digitsBelowRoot_1 : decode b_S_digitsBelowRoot 1 = .ok (.lconst 0, 1) := by decide +kernel
theorem d_S_digitsBelowRoot_2 : decode b_S_digitsBelowRoot 2 = .ok (.lcmp, 1) := by decide +kernel
theorem d_S_digitsBelowRoot_3 : decode b_S_digitsBelowRoot 3 = .ok (.ifCond .ne 12, 3) := by decide +kernel
theorem d_S_digitsBelowRoot_15 : decode b_S_digitsBelowRoot 15 = .ok (.lload_n 2, 1) := by decide +kernel
theorem d_S_digitsBelowRoot_16 : decode b_S_digitsBelowRoot 16 = .ok (.lconst 0, 1) := by decide +kernel
theorem d_S_digitsBelowRoot_17 : decode b_S_digitsBelowRoot 17 = .ok (.lcmp, 1) := by decide +kernel
theorem d_S_digitsBelowRoot_18 : decode b_S_digitsBelowRoot 18 = .ok (.ifCond .ne 12, 3) := by decide +kernel
theorem d_S_digitsBelowRoot_30 : decode b_S_digitsBelowRoot 30 = .ok (.iconst 1, 1) := by decide +kernel
theorem d_S_digitsBelowRoot_31 : decode b_S_digitsBelowRoot 31 = .ok (.goto 4, 3) := by decide +kernel
theorem d_S_digitsBelowRoot_35 : decode b_S_digitsBelowRoot 35 = .ok (.istore 6, 2) := by decide +kernel
theorem d_S_digitsBelowRoot_37 : decode b_S_digitsBelowRoot 37 = .ok (.iload 6, 2) := by decide +kernel
theorem d_S_digitsBelowRoot_39 : decode b_S_digitsBelowRoot 39 = .ok (.ifCond .eq 9, 3) := by decide +kernel
theorem d_S_digitsBelowRoot_42 : decode b_S_digitsBelowRoot 42 = .ok (.ldc2_w 70, 3) := by decide +kernel
theorem d_S_digitsBelowRoot_45 : decode b_S_digitsBelowRoot 45 = .ok (.goto 4, 3) := by decide +kernel
theorem d_S_digitsBelowRoot_49 : decode b_S_digitsBelowRoot 49 = .ok (.lreturn, 1) := by decide +kernel
theorem d_S_digitsBelowRoot_21 : decode b_S_digitsBelowRoot 21 = .ok (.lload 4, 2) := by decide +kernel
theorem d_S_digitsBelowRoot_23 : decode b_S_digitsBelowRoot 23 = .ok (.lload_n 0, 1) := by decide +kernel
theorem d_S_digitsBelowRoot_24 : decode b_S_digitsBelowRoot 24 = .ok (.invokestatic 39, 3) := by decide +kernel
theorem d_S_digitsBelowRoot_27 : decode b_S_digitsBelowRoot 27 = .ok (.ifCond .le 7, 3) := by decide +kernel
theorem d_S_digitsBelowRoot_34 : decode b_S_digitsBelowRoot 34 = .ok (.iconst 0, 1) := by decide +kernel
theorem d_S_digitsBelowRoot_48 : decode b_S_digitsBelowRoot 48 = .ok (.lconst 1, 1) := by decide +kernel
theorem d_S_digitsBelowRoot_6 : decode b_S_digitsBelowRoot 6 = .ok (.lload 4, 2) := by decide +kernel
theorem d_S_digitsBelowRoot_8 : decode b_S_digitsBelowRoot 8 = .ok (.lconst 0, 1) := by decide +kernel
theorem d_S_digitsBelowRoot_9 : decode b_S_digitsBelowRoot 9 = .ok (.lcmp, 1) := by decide +kernel
theorem d_S_digitsBelowRoot_10 : decode b_S_digitsBelowRoot 10 = .ok (.ifCond .ne 5, 3) := by decide +kernel
theorem d_S_digitsBelowRoot_13 : decode b_S_digitsBelowRoot 13 = .ok (.lconst 0, 1) := by decide +kernel
theorem d_S_digitsBelowRoot_14 : decode b_S_digitsBelowRoot 14 = .ok (.lreturn, 1) := by decide +kernel
set_option maxHeartbeats 4000000 in
set_option maxRecDepth 100000 in
theorem c_S_digitsBelowRoot (l : Launch) (dC : Nat → ClassId) (dI : Nat → Nat → Nat) (sz : Nat) (jr : Int64) (jh : Int64) (jl : Int64) : Met l y_S_digitsBelowRoot w_S_digitsBelowRoot ({ frames := 2, cells := 0, slots := 0, locals := 46 }) (cPc (dC, dI) [] [.long jr, .long jh, .long jl] [] sz) (va_Ql (fun (r : Int64) (_ : Unit) => r = (g_S_digitsBelowRoot jr jh jl)) (fun _ t => va_P (dC, dI) classes [] t.heap ∧ va_D (va_A [] sz) []) (va_A [] sz)) 0 0 (va_A [] sz) := by
  refine Met.ofW (cc := b_S_digitsBelowRoot) (maxL := 7) (ret := (some .long)) (by decide) rfl ?_
  intro p e s m args below meth c s₁ B hml hv
  obtain ⟨rfl, hsz, hP, hK, hD0, hnw⟩ := hv
  have hx := B.exec
  have hb := B.bytes
  have hr := B.returns
  have hts := atoms_spec (ws := w_S_digitsBelowRoot) B.pre
  have htA : ∀ w ∈ wAll, w.before _ s = true := fun w h => hts w (List.mem_cons_of_mem _ h)
  have hown : s.vm.findClass R_S = some m.cls := findClass_of_methodNamed B.named
  have hlocks := B.notSynchronized
  subst hsz
  have hD := hD0.self (sz := s.heap.size)
  generalize hAe : va_A [] s.heap.size = A at hD ⊢
  have hA : ∀ q : Nat, s.heap.size ≤ q → A q := fun q h => by rw [← hAe]; exact Or.inr h
  have hS : va_S A s.heap s.heap [] := va_S.rf
  have hP : va_P (dC, dI) classes [] s.heap := hP
  obtain ⟨H, eH⟩ : ∃ z, z = s.heap := ⟨_, rfl⟩
  rw [← eH] at hP
  have hS : va_S A s.heap H [] := by rw [eH]; exact hS
  rw [← eH]
  generalize ([] : List Loc) = locs at hS ⊢
  have hl := lv_entry ([.long jr, .long jh, .long jl]) (n := 7) (Nat.le_of_ble_eq_true rfl)
  rw [lg_entry_eq]
  generalize (lg_sl ([.long jr, .long jh, .long jl]) ++ List.replicate (7 - (lg_sl ([.long jr, .long jh, .long jl])).length) Slot.unset).toArray = ls at hl ⊢
  have hl : lv_has ls 7 [(0, .long jr), (2, .long jh), (4, .long jl)] := hl
  refine lv_lload_n hx hb d_S_digitsBelowRoot_0 rfl (lv_at hl 1 rfl) ?_
  refine lv_lconst (v := 0) hx hb d_S_digitsBelowRoot_1 (by decide) ?_
  refine W.lcmp hx hb d_S_digitsBelowRoot_2 ?_
  refine lv_if_ne (tgt := 15) hx hb d_S_digitsBelowRoot_3 (by decide) (fun c_3 => ?_) (fun c_3 => ?_)
  · skip
    have c_3 : ¬ jh = 0 := fun h9 => c_3 ((lg_cmp_eq _ _).mpr h9)
    refine lv_lload_n hx hb d_S_digitsBelowRoot_15 rfl (lv_at hl 1 rfl) ?_
    refine lv_lconst (v := 0) hx hb d_S_digitsBelowRoot_16 (by decide) ?_
    refine W.lcmp hx hb d_S_digitsBelowRoot_17 ?_
    refine lv_if_ne (tgt := 30) hx hb d_S_digitsBelowRoot_18 (by decide) (fun c_18 => ?_) (fun c_18 => ?_)
    · skip
      have c_18 : ¬ jh = 0 := fun h9 => c_18 ((lg_cmp_eq _ _).mpr h9)
      refine lv_iconst (v := 1) hx hb d_S_digitsBelowRoot_30 (by decide) ?_
      refine lv_goto (tgt := 35) hx hb d_S_digitsBelowRoot_31 (by decide) ?_
      refine lv_istore (lv' := [(6, .int 1), (0, .long jr), (2, .long jh), (4, .long jl)]) hx hb d_S_digitsBelowRoot_35 hl (by decide) rfl (fun ls hl => ?_)
      refine lv_iload hx hb d_S_digitsBelowRoot_37 (lv_at hl 0 rfl) ?_
      refine lv_if_eq (tgt := 48) hx hb d_S_digitsBelowRoot_39 (by decide) (fun c_39 => absurd c_39 (by decide)) (fun _ => ?_)
      refine lv_ldc2 (v := (-9223372036854775807)) hx hb hown (htA _ k_66) d_S_digitsBelowRoot_42 ?_
      refine lv_goto (tgt := 49) hx hb d_S_digitsBelowRoot_45 (by decide) ?_
      have hE : g_S_digitsBelowRoot jr jh jl = ((-9223372036854775807)) := by clear hP hD hl hS; unfold g_S_digitsBelowRoot; (try dsimp only); rw [if_neg c_3, if_neg c_18]
      have hP9 : va_P (dC, dI) classes [] H := by exact hP.sub [] rfl
      have hD9 : va_D A [] := by exact hD.sub [] (by decide) rfl
      exact W.lret (v := (-9223372036854775807)) hx hb hr (fun t ht hW => ⟨⟨(-9223372036854775807), (), rfl, by rw [hE], by rw [ht]; exact hP9, hD9⟩, hS.F ht⟩) hS.2.2 d_S_digitsBelowRoot_49
    · skip
      have c_18 : jh = 0 := (lg_cmp_eq _ _).mp c_18
      refine lv_lload hx hb d_S_digitsBelowRoot_21 (lv_at hl 2 rfl) ?_
      refine lv_lload_n hx hb d_S_digitsBelowRoot_23 rfl (lv_at hl 0 rfl) ?_
      have hPc := hP.sub (ws' := []) [] rfl
      have hDc := hD.sub (ws' := []) [] (by decide) rfl
      have hKc := hK.sub (tys' := []) [] rfl
      have hFc := va_free (wc := []) hD hS hA [] rfl
      refine cc_i (va_runS (As := [.long jl, .long jr]) (rest := []) ⟨hx, hb, hml, hown, htA⟩ (c_Lg_compareUnsigned l dC dI H.size jl jr) (va_cwS 2 htA (gi_S k_33 k_34 k_2 (gi_code k_5)) rfl rfl rfl (by decide +kernel) ⟨Nat.le_of_ble_eq_true rfl, Nat.le_of_ble_eq_true rfl⟩) (pre_S hnw hPc hKc hDc) rfl rfl hl.1 rfl (lv_room (Nat.le_of_ble_eq_true rfl)) d_S_digitsBelowRoot_24 ⟨Nat.le_of_ble_eq_true rfl, Nat.le_of_ble_eq_true rfl⟩) hS hFc hP hD [] [] (wr := []) rfl rfl (by decide) (by decide) (fun H locs hP hD hS => ?_)
      have hP : va_P (dC, dI) classes [] H := hP
      have hD : va_D A [] := hD
      refine lv_if_le (tgt := 34) hx hb d_S_digitsBelowRoot_27 (by decide) (fun c_27 => ?_) (fun c_27 => ?_)
      · skip
        have c_27 : uN jl ≤ uN jr := (cU_le _ _).mp c_27
        refine lv_iconst (v := 0) hx hb d_S_digitsBelowRoot_34 (by decide) ?_
        refine lv_istore (lv' := [(6, .int 0), (0, .long jr), (2, .long jh), (4, .long jl)]) hx hb d_S_digitsBelowRoot_35 hl (by decide) rfl (fun ls hl => ?_)
        refine lv_iload hx hb d_S_digitsBelowRoot_37 (lv_at hl 0 rfl) ?_
        refine lv_if_eq (tgt := 48) hx hb d_S_digitsBelowRoot_39 (by decide) (fun _ => ?_) (fun c_39 => absurd c_39 (by decide))
        refine lv_lconst (v := 1) hx hb d_S_digitsBelowRoot_48 (by decide) ?_
        have hE : g_S_digitsBelowRoot jr jh jl = (1) := by clear hP hD hl hS; unfold g_S_digitsBelowRoot; (try dsimp only); rw [if_neg c_3, if_pos c_18, if_pos c_27]
        have hP9 : va_P (dC, dI) classes [] H := by exact hP.sub [] rfl
        have hD9 : va_D A [] := by exact hD.sub [] (by decide) rfl
        exact W.lret (v := 1) hx hb hr (fun t ht hW => ⟨⟨1, (), rfl, by rw [hE], by rw [ht]; exact hP9, hD9⟩, hS.F ht⟩) hS.2.2 d_S_digitsBelowRoot_49
      · skip
        have c_27 : ¬ uN jl ≤ uN jr := fun h9 => c_27 ((cU_le _ _).mpr h9)
        refine lv_iconst (v := 1) hx hb d_S_digitsBelowRoot_30 (by decide) ?_
        refine lv_goto (tgt := 35) hx hb d_S_digitsBelowRoot_31 (by decide) ?_
        refine lv_istore (lv' := [(6, .int 1), (0, .long jr), (2, .long jh), (4, .long jl)]) hx hb d_S_digitsBelowRoot_35 hl (by decide) rfl (fun ls hl => ?_)
        refine lv_iload hx hb d_S_digitsBelowRoot_37 (lv_at hl 0 rfl) ?_
        refine lv_if_eq (tgt := 48) hx hb d_S_digitsBelowRoot_39 (by decide) (fun c_39 => absurd c_39 (by decide)) (fun _ => ?_)
        refine lv_ldc2 (v := (-9223372036854775807)) hx hb hown (htA _ k_66) d_S_digitsBelowRoot_42 ?_
        refine lv_goto (tgt := 49) hx hb d_S_digitsBelowRoot_45 (by decide) ?_
        have hE : g_S_digitsBelowRoot jr jh jl = ((-9223372036854775807)) := by clear hP hD hl hS; unfold g_S_digitsBelowRoot; (try dsimp only); rw [if_neg c_3, if_pos c_18, if_neg c_27]
        have hP9 : va_P (dC, dI) classes [] H := by exact hP.sub [] rfl
        have hD9 : va_D A [] := by exact hD.sub [] (by decide) rfl
        exact W.lret (v := (-9223372036854775807)) hx hb hr (fun t ht hW => ⟨⟨(-9223372036854775807), (), rfl, by rw [hE], by rw [ht]; exact hP9, hD9⟩, hS.F ht⟩) hS.2.2 d_S_digitsBelowRoot_49
  · skip
    have c_3 : jh = 0 := (lg_cmp_eq _ _).mp c_3
    refine lv_lload hx hb d_S_digitsBelowRoot_6 (lv_at hl 2 rfl) ?_
    refine lv_lconst (v := 0) hx hb d_S_digitsBelowRoot_8 (by decide) ?_
    refine W.lcmp hx hb d_S_digitsBelowRoot_9 ?_
    refine lv_if_ne (tgt := 15) hx hb d_S_digitsBelowRoot_10 (by decide) (fun c_10 => ?_) (fun c_10 => ?_)
    · skip
      have c_10 : ¬ jl = 0 := fun h9 => c_10 ((lg_cmp_eq _ _).mpr h9)
      refine lv_lload_n hx hb d_S_digitsBelowRoot_15 rfl (lv_at hl 1 rfl) ?_
      refine lv_lconst (v := 0) hx hb d_S_digitsBelowRoot_16 (by decide) ?_
      refine W.lcmp hx hb d_S_digitsBelowRoot_17 ?_
      refine lv_if_ne (tgt := 30) hx hb d_S_digitsBelowRoot_18 (by decide) (fun c_18 => ?_) (fun c_18 => ?_)
      · skip
        have c_18 : ¬ jh = 0 := fun h9 => c_18 ((lg_cmp_eq _ _).mpr h9)
        refine lv_iconst (v := 1) hx hb d_S_digitsBelowRoot_30 (by decide) ?_
        refine lv_goto (tgt := 35) hx hb d_S_digitsBelowRoot_31 (by decide) ?_
        refine lv_istore (lv' := [(6, .int 1), (0, .long jr), (2, .long jh), (4, .long jl)]) hx hb d_S_digitsBelowRoot_35 hl (by decide) rfl (fun ls hl => ?_)
        refine lv_iload hx hb d_S_digitsBelowRoot_37 (lv_at hl 0 rfl) ?_
        refine lv_if_eq (tgt := 48) hx hb d_S_digitsBelowRoot_39 (by decide) (fun c_39 => absurd c_39 (by decide)) (fun _ => ?_)
        refine lv_ldc2 (v := (-9223372036854775807)) hx hb hown (htA _ k_66) d_S_digitsBelowRoot_42 ?_
        refine lv_goto (tgt := 49) hx hb d_S_digitsBelowRoot_45 (by decide) ?_
        have hE : g_S_digitsBelowRoot jr jh jl = ((-9223372036854775807)) := by clear hP hD hl hS; unfold g_S_digitsBelowRoot; (try dsimp only); rw [if_pos c_3, if_neg c_10, if_neg c_18]
        have hP9 : va_P (dC, dI) classes [] H := by exact hP.sub [] rfl
        have hD9 : va_D A [] := by exact hD.sub [] (by decide) rfl
        exact W.lret (v := (-9223372036854775807)) hx hb hr (fun t ht hW => ⟨⟨(-9223372036854775807), (), rfl, by rw [hE], by rw [ht]; exact hP9, hD9⟩, hS.F ht⟩) hS.2.2 d_S_digitsBelowRoot_49
      · skip
        have c_18 : jh = 0 := (lg_cmp_eq _ _).mp c_18
        refine lv_lload hx hb d_S_digitsBelowRoot_21 (lv_at hl 2 rfl) ?_
        refine lv_lload_n hx hb d_S_digitsBelowRoot_23 rfl (lv_at hl 0 rfl) ?_
        have hPc := hP.sub (ws' := []) [] rfl
        have hDc := hD.sub (ws' := []) [] (by decide) rfl
        have hKc := hK.sub (tys' := []) [] rfl
        have hFc := va_free (wc := []) hD hS hA [] rfl
        refine cc_i (va_runS (As := [.long jl, .long jr]) (rest := []) ⟨hx, hb, hml, hown, htA⟩ (c_Lg_compareUnsigned l dC dI H.size jl jr) (va_cwS 2 htA (gi_S k_33 k_34 k_2 (gi_code k_5)) rfl rfl rfl (by decide +kernel) ⟨Nat.le_of_ble_eq_true rfl, Nat.le_of_ble_eq_true rfl⟩) (pre_S hnw hPc hKc hDc) rfl rfl hl.1 rfl (lv_room (Nat.le_of_ble_eq_true rfl)) d_S_digitsBelowRoot_24 ⟨Nat.le_of_ble_eq_true rfl, Nat.le_of_ble_eq_true rfl⟩) hS hFc hP hD [] [] (wr := []) rfl rfl (by decide) (by decide) (fun H locs hP hD hS => ?_)
        have hP : va_P (dC, dI) classes [] H := hP
        have hD : va_D A [] := hD
        refine lv_if_le (tgt := 34) hx hb d_S_digitsBelowRoot_27 (by decide) (fun c_27 => ?_) (fun c_27 => ?_)
        · skip
          have c_27 : uN jl ≤ uN jr := (cU_le _ _).mp c_27
          refine lv_iconst (v := 0) hx hb d_S_digitsBelowRoot_34 (by decide) ?_
          refine lv_istore (lv' := [(6, .int 0), (0, .long jr), (2, .long jh), (4, .long jl)]) hx hb d_S_digitsBelowRoot_35 hl (by decide) rfl (fun ls hl => ?_)
          refine lv_iload hx hb d_S_digitsBelowRoot_37 (lv_at hl 0 rfl) ?_
          refine lv_if_eq (tgt := 48) hx hb d_S_digitsBelowRoot_39 (by decide) (fun _ => ?_) (fun c_39 => absurd c_39 (by decide))
          refine lv_lconst (v := 1) hx hb d_S_digitsBelowRoot_48 (by decide) ?_
          have hE : g_S_digitsBelowRoot jr jh jl = (1) := by clear hP hD hl hS; unfold g_S_digitsBelowRoot; (try dsimp only); rw [if_pos c_3, if_neg c_10, if_pos c_18, if_pos c_27]
          have hP9 : va_P (dC, dI) classes [] H := by exact hP.sub [] rfl
          have hD9 : va_D A [] := by exact hD.sub [] (by decide) rfl
          exact W.lret (v := 1) hx hb hr (fun t ht hW => ⟨⟨1, (), rfl, by rw [hE], by rw [ht]; exact hP9, hD9⟩, hS.F ht⟩) hS.2.2 d_S_digitsBelowRoot_49
        · skip
          have c_27 : ¬ uN jl ≤ uN jr := fun h9 => c_27 ((cU_le _ _).mpr h9)
          refine lv_iconst (v := 1) hx hb d_S_digitsBelowRoot_30 (by decide) ?_
          refine lv_goto (tgt := 35) hx hb d_S_digitsBelowRoot_31 (by decide) ?_
          refine lv_istore (lv' := [(6, .int 1), (0, .long jr), (2, .long jh), (4, .long jl)]) hx hb d_S_digitsBelowRoot_35 hl (by decide) rfl (fun ls hl => ?_)
          refine lv_iload hx hb d_S_digitsBelowRoot_37 (lv_at hl 0 rfl) ?_
          refine lv_if_eq (tgt := 48) hx hb d_S_digitsBelowRoot_39 (by decide) (fun c_39 => absurd c_39 (by decide)) (fun _ => ?_)
          refine lv_ldc2 (v := (-9223372036854775807)) hx hb hown (htA _ k_66) d_S_digitsBelowRoot_42 ?_
          refine lv_goto (tgt := 49) hx hb d_S_digitsBelowRoot_45 (by decide) ?_
          have hE : g_S_digitsBelowRoot jr jh jl = ((-9223372036854775807)) := by clear hP hD hl hS; unfold g_S_digitsBelowRoot; (try dsimp only); rw [if_pos c_3, if_neg c_10, if_pos c_18, if_neg c_27]
          have hP9 : va_P (dC, dI) classes [] H := by exact hP.sub [] rfl
          have hD9 : va_D A [] := by exact hD.sub [] (by decide) rfl
          exact W.lret (v := (-9223372036854775807)) hx hb hr (fun t ht hW => ⟨⟨(-9223372036854775807), (), rfl, by rw [hE], by rw [ht]; exact hP9, hD9⟩, hS.F ht⟩) hS.2.2 d_S_digitsBelowRoot_49
    · skip
      have c_10 : jl = 0 := (lg_cmp_eq _ _).mp c_10
      refine lv_lconst (v := 0) hx hb d_S_digitsBelowRoot_13 (by decide) ?_
      have hE : g_S_digitsBelowRoot jr jh jl = (0) := by clear hP hD hl hS; unfold g_S_digitsBelowRoot; (try dsimp only); rw [if_pos c_3, if_pos c_10]
      have hP9 : va_P (dC, dI) classes [] H := by exact hP.sub [] rfl
      have hD9 : va_D A [] := by exact hD.sub [] (by decide) rfl
      exact W.lret (v := 0) hx hb hr (fun t ht hW => ⟨⟨0, (), rfl, by rw [hE], by rw [ht]; exact hP9, hD9⟩, hS.F ht⟩) hS.2.2 d_S_digitsBelowRoot_14
theorem d_S_takeRoot_0 : decode b_S_takeRoot 0 = .ok (.aload_n 0, 1) := by decide +kernel
theorem d_S_takeRoot_1 : decode b_S_takeRoot 1 = .ok (.invokevirtual 45, 3) := by decide +kernel
theorem d_S_takeRoot_4 : decode b_S_takeRoot 4 = .ok (.ifCond .eq 4, 3) := by decide +kernel
theorem d_S_takeRoot_8 : decode b_S_takeRoot 8 = .ok (.aload_n 0, 1) := by decide +kernel
theorem d_S_takeRoot_9 : decode b_S_takeRoot 9 = .ok (.getfield 18, 3) := by decide +kernel
theorem d_S_takeRoot_12 : decode b_S_takeRoot 12 = .ok (.iconst 1, 1) := by decide +kernel
theorem d_S_takeRoot_13 : decode b_S_takeRoot 13 = .ok (.iand, 1) := by decide +kernel
theorem d_S_takeRoot_14 : decode b_S_takeRoot 14 = .ok (.istore_n 1, 1) := by decide +kernel
theorem d_S_takeRoot_15 : decode b_S_takeRoot 15 = .ok (.aload_n 0, 1) := by decide +kernel
theorem d_S_takeRoot_16 : decode b_S_takeRoot 16 = .ok (.getfield 9, 3) := by decide +kernel
theorem d_S_takeRoot_19 : decode b_S_takeRoot 19 = .ok (.iload_n 1, 1) := by decide +kernel
theorem d_S_takeRoot_20 : decode b_S_takeRoot 20 = .ok (.lushr, 1) := by decide +kernel
theorem d_S_takeRoot_21 : decode b_S_takeRoot 21 = .ok (.lstore_n 2, 1) := by decide +kernel
theorem d_S_takeRoot_22 : decode b_S_takeRoot 22 = .ok (.iload_n 1, 1) := by decide +kernel
theorem d_S_takeRoot_23 : decode b_S_takeRoot 23 = .ok (.ifCond .ne 7, 3) := by decide +kernel
theorem d_S_takeRoot_30 : decode b_S_takeRoot 30 = .ok (.aload_n 0, 1) := by decide +kernel
theorem d_S_takeRoot_31 : decode b_S_takeRoot 31 = .ok (.getfield 9, 3) := by decide +kernel
theorem d_S_takeRoot_34 : decode b_S_takeRoot 34 = .ok (.bipush 63, 2) := by decide +kernel
theorem d_S_takeRoot_36 : decode b_S_takeRoot 36 = .ok (.lshl, 1) := by decide +kernel
theorem d_S_takeRoot_26 : decode b_S_takeRoot 26 = .ok (.lconst 0, 1) := by decide +kernel
theorem d_S_takeRoot_27 : decode b_S_takeRoot 27 = .ok (.goto 10, 3) := by decide +kernel
theorem d_S_takeRoot_37 : decode b_S_takeRoot 37 = .ok (.lstore 4, 2) := by decide +kernel
theorem d_S_takeRoot_39 : decode b_S_takeRoot 39 = .ok (.lconst 0, 1) := by decide +kernel
theorem d_S_takeRoot_40 : decode b_S_takeRoot 40 = .ok (.lstore 6, 2) := by decide +kernel
theorem d_S_takeRoot_42 : decode b_S_takeRoot 42 = .ok (.bipush 63, 2) := by decide +kernel
theorem d_S_takeRoot_44 : decode b_S_takeRoot 44 = .ok (.istore 8, 2) := by decide +kernel
theorem d_S_takeRoot_46 : decode b_S_takeRoot 46 = .ok (.iload 8, 2) := by decide +kernel
theorem d_S_takeRoot_48 : decode b_S_takeRoot 48 = .ok (.ifCond .lt 40, 3) := by decide +kernel
theorem d_S_takeRoot_51 : decode b_S_takeRoot 51 = .ok (.lload 6, 2) := by decide +kernel
theorem d_S_takeRoot_53 : decode b_S_takeRoot 53 = .ok (.lconst 1, 1) := by decide +kernel
theorem d_S_takeRoot_54 : decode b_S_takeRoot 54 = .ok (.iload 8, 2) := by decide +kernel
theorem d_S_takeRoot_56 : decode b_S_takeRoot 56 = .ok (.lshl, 1) := by decide +kernel
theorem d_S_takeRoot_57 : decode b_S_takeRoot 57 = .ok (.lor, 1) := by decide +kernel
theorem d_S_takeRoot_58 : decode b_S_takeRoot 58 = .ok (.lstore 9, 2) := by decide +kernel
theorem d_S_takeRoot_60 : decode b_S_takeRoot 60 = .ok (.aload_n 0, 1) := by decide +kernel
theorem d_S_takeRoot_61 : decode b_S_takeRoot 61 = .ok (.lload 9, 2) := by decide +kernel
theorem d_S_takeRoot_63 : decode b_S_takeRoot 63 = .ok (.lload 9, 2) := by decide +kernel
theorem d_S_takeRoot_65 : decode b_S_takeRoot 65 = .ok (.invokevirtual 56, 3) := by decide +kernel
theorem d_S_takeRoot_68 : decode b_S_takeRoot 68 = .ok (.aload_n 0, 1) := by decide +kernel
theorem d_S_takeRoot_69 : decode b_S_takeRoot 69 = .ok (.lload_n 2, 1) := by decide +kernel
theorem d_S_takeRoot_70 : decode b_S_takeRoot 70 = .ok (.lload 4, 2) := by decide +kernel
theorem d_S_takeRoot_72 : decode b_S_takeRoot 72 = .ok (.invokevirtual 62, 3) := by decide +kernel
theorem d_S_takeRoot_75 : decode b_S_takeRoot 75 = .ok (.ifCond .ne 7, 3) := by decide +kernel
theorem d_S_takeRoot_78 : decode b_S_takeRoot 78 = .ok (.lload 9, 2) := by decide +kernel
theorem d_S_takeRoot_80 : decode b_S_takeRoot 80 = .ok (.lstore 6, 2) := by decide +kernel
theorem d_S_takeRoot_82 : decode b_S_takeRoot 82 = .ok (.iinc 8 (-1), 3) := by decide +kernel
theorem d_S_takeRoot_85 : decode b_S_takeRoot 85 = .ok (.goto (-39), 3) := by decide +kernel
theorem d_S_takeRoot_88 : decode b_S_takeRoot 88 = .ok (.aload_n 0, 1) := by decide +kernel
theorem d_S_takeRoot_89 : decode b_S_takeRoot 89 = .ok (.lload 6, 2) := by decide +kernel
theorem d_S_takeRoot_91 : decode b_S_takeRoot 91 = .ok (.lload 6, 2) := by decide +kernel
theorem d_S_takeRoot_93 : decode b_S_takeRoot 93 = .ok (.invokevirtual 56, 3) := by decide +kernel
theorem d_S_takeRoot_96 : decode b_S_takeRoot 96 = .ok (.lload 4, 2) := by decide +kernel
theorem d_S_takeRoot_98 : decode b_S_takeRoot 98 = .ok (.aload_n 0, 1) := by decide +kernel
theorem d_S_takeRoot_99 : decode b_S_takeRoot 99 = .ok (.getfield 15, 3) := by decide +kernel
theorem d_S_takeRoot_102 : decode b_S_takeRoot 102 = .ok (.invokestatic 39, 3) := by decide +kernel
theorem d_S_takeRoot_105 : decode b_S_takeRoot 105 = .ok (.ifCond .ge 7, 3) := by decide +kernel
theorem d_S_takeRoot_112 : decode b_S_takeRoot 112 = .ok (.iconst 0, 1) := by decide +kernel
theorem d_S_takeRoot_108 : decode b_S_takeRoot 108 = .ok (.iconst 1, 1) := by decide +kernel
theorem d_S_takeRoot_109 : decode b_S_takeRoot 109 = .ok (.goto 4, 3) := by decide +kernel
theorem d_S_takeRoot_113 : decode b_S_takeRoot 113 = .ok (.istore 8, 2) := by decide +kernel
theorem d_S_takeRoot_115 : decode b_S_takeRoot 115 = .ok (.lload 4, 2) := by decide +kernel
theorem d_S_takeRoot_117 : decode b_S_takeRoot 117 = .ok (.aload_n 0, 1) := by decide +kernel
theorem d_S_takeRoot_118 : decode b_S_takeRoot 118 = .ok (.getfield 15, 3) := by decide +kernel
theorem d_S_takeRoot_121 : decode b_S_takeRoot 121 = .ok (.lsub, 1) := by decide +kernel
theorem d_S_takeRoot_122 : decode b_S_takeRoot 122 = .ok (.lstore 9, 2) := by decide +kernel
theorem d_S_takeRoot_124 : decode b_S_takeRoot 124 = .ok (.lload_n 2, 1) := by decide +kernel
theorem d_S_takeRoot_125 : decode b_S_takeRoot 125 = .ok (.aload_n 0, 1) := by decide +kernel
theorem d_S_takeRoot_126 : decode b_S_takeRoot 126 = .ok (.getfield 9, 3) := by decide +kernel
theorem d_S_takeRoot_129 : decode b_S_takeRoot 129 = .ok (.lsub, 1) := by decide +kernel
theorem d_S_takeRoot_130 : decode b_S_takeRoot 130 = .ok (.iload 8, 2) := by decide +kernel
theorem d_S_takeRoot_132 : decode b_S_takeRoot 132 = .ok (.i2l, 1) := by decide +kernel
theorem d_S_takeRoot_133 : decode b_S_takeRoot 133 = .ok (.lsub, 1) := by decide +kernel
theorem d_S_takeRoot_134 : decode b_S_takeRoot 134 = .ok (.lstore 11, 2) := by decide +kernel
theorem d_S_takeRoot_136 : decode b_S_takeRoot 136 = .ok (.aload_n 0, 1) := by decide +kernel
theorem d_S_takeRoot_137 : decode b_S_takeRoot 137 = .ok (.lload 6, 2) := by decide +kernel
theorem d_S_takeRoot_139 : decode b_S_takeRoot 139 = .ok (.putfield 9, 3) := by decide +kernel
theorem d_S_takeRoot_142 : decode b_S_takeRoot 142 = .ok (.aload_n 0, 1) := by decide +kernel
theorem d_S_takeRoot_143 : decode b_S_takeRoot 143 = .ok (.lload 6, 2) := by decide +kernel
theorem d_S_takeRoot_145 : decode b_S_takeRoot 145 = .ok (.lload 11, 2) := by decide +kernel
theorem d_S_takeRoot_147 : decode b_S_takeRoot 147 = .ok (.lload 9, 2) := by decide +kernel
theorem d_S_takeRoot_149 : decode b_S_takeRoot 149 = .ok (.invokestatic 66, 3) := by decide +kernel
theorem d_S_takeRoot_152 : decode b_S_takeRoot 152 = .ok (.putfield 15, 3) := by decide +kernel
theorem d_S_takeRoot_155 : decode b_S_takeRoot 155 = .ok (.aload_n 0, 1) := by decide +kernel
theorem d_S_takeRoot_156 : decode b_S_takeRoot 156 = .ok (.aload_n 0, 1) := by decide +kernel
theorem d_S_takeRoot_157 : decode b_S_takeRoot 157 = .ok (.getfield 18, 3) := by decide +kernel
theorem d_S_takeRoot_160 : decode b_S_takeRoot 160 = .ok (.iload_n 1, 1) := by decide +kernel
theorem d_S_takeRoot_161 : decode b_S_takeRoot 161 = .ok (.iadd, 1) := by decide +kernel
theorem d_S_takeRoot_162 : decode b_S_takeRoot 162 = .ok (.bipush 64, 2) := by decide +kernel
theorem d_S_takeRoot_164 : decode b_S_takeRoot 164 = .ok (.isub, 1) := by decide +kernel
theorem d_S_takeRoot_165 : decode b_S_takeRoot 165 = .ok (.iconst 2, 1) := by decide +kernel
theorem d_S_takeRoot_166 : decode b_S_takeRoot 166 = .ok (.idiv, 1) := by decide +kernel
theorem d_S_takeRoot_167 : decode b_S_takeRoot 167 = .ok (.putfield 18, 3) := by decide +kernel
theorem d_S_takeRoot_170 : decode b_S_takeRoot 170 = .ok (.return_, 1) := by decide +kernel
theorem d_S_takeRoot_7 : decode b_S_takeRoot 7 = .ok (.return_, 1) := by decide +kernel
set_option maxHeartbeats 4000000 in
set_option maxRecDepth 100000 in
theorem c_S_takeRoot (l : Launch) (dC : Nat → ClassId) (dI : Nat → Nat → Nat) (a4 : Nat) (sz : Nat) (hi : Int64) (lo : Int64) (ex : Int32) : Met l y_S_takeRoot w_S_takeRoot ({ frames := 3, cells := 0, slots := 0, locals := 72 }) (cPc (dC, dI) [] [.ref a4] [(a4, .inr (2, [.long hi, .long lo, .int ex]))] sz) (va_Qv (fun (_ : Unit) => True) (fun _ t => va_P (dC, dI) classes [(a4, .inr (2, [.long ((g_S_takeRoot hi lo ex).1), .long ((g_S_takeRoot hi lo ex).2.1), .int ((g_S_takeRoot hi lo ex).2.2)]))] t.heap ∧ va_D (va_A [(a4, .inr (2, [.long hi, .long lo, .int ex]))] sz) [(a4, .inr (2, [.long ((g_S_takeRoot hi lo ex).1), .long ((g_S_takeRoot hi lo ex).2.1), .int ((g_S_takeRoot hi lo ex).2.2)]))]) (va_A [(a4, .inr (2, [.long hi, .long lo, .int ex]))] sz)) 0 0 (va_A [(a4, .inr (2, [.long hi, .long lo, .int ex]))] sz) := by
  refine Met.ofW (cc := b_S_takeRoot) (maxL := 13) (ret := none) (by decide) rfl ?_
  intro p e s m args below meth c s₁ B hml hv
  obtain ⟨rfl, hsz, hP, hK, hD0, hnw⟩ := hv
  have hx := B.exec
  have hb := B.bytes
  have hr := B.returns
  have hts := atoms_spec (ws := w_S_takeRoot) B.pre
  have htA : ∀ w ∈ wAll, w.before _ s = true := fun w h => hts w (List.mem_cons_of_mem _ h)
  have hown : s.vm.findClass R_S = some m.cls := findClass_of_methodNamed B.named
  have hlocks := B.notSynchronized
  subst hsz
  have hD := hD0.self (sz := s.heap.size)
  generalize hAe : va_A [(a4, .inr (2, [.long hi, .long lo, .int ex]))] s.heap.size = A at hD ⊢
  have hA : ∀ q : Nat, s.heap.size ≤ q → A q := fun q h => by rw [← hAe]; exact Or.inr h
  have hS : va_S A s.heap s.heap [] := va_S.rf
  have hP : va_P (dC, dI) classes [(a4, .inr (2, [.long hi, .long lo, .int ex]))] s.heap := hP
  obtain ⟨H, eH⟩ : ∃ z, z = s.heap := ⟨_, rfl⟩
  rw [← eH] at hP
  have hS : va_S A s.heap H [] := by rw [eH]; exact hS
  rw [← eH]
  generalize ([] : List Loc) = locs at hS ⊢
  have hl := lv_entry ([.ref a4]) (n := 13) (Nat.le_of_ble_eq_true rfl)
  rw [lg_entry_eq]
  generalize (lg_sl ([.ref a4]) ++ List.replicate (13 - (lg_sl ([.ref a4])).length) Slot.unset).toArray = ls at hl ⊢
  have hl : lv_has ls 13 [(0, .ref a4)] := hl
  refine lv_aload_n hx hb d_S_takeRoot_0 rfl (lv_at hl 0 rfl) ?_
  have hPc := hP.sub (ws' := [(a4, .inr (2, [.long hi, .long lo, .int ex]))]) [0] rfl
  have hDc := hD.sub (ws' := [(a4, .inr (2, [.long hi, .long lo, .int ex]))]) [0] (by decide) rfl
  have hKc := hK.sub (tys' := []) [] rfl
  have hFc := va_free (wc := [(a4, .inr (2, [.long hi, .long lo, .int ex]))]) hD hS hA [0] rfl
  refine cc_i (va_runV (As := []) (rest := []) ⟨hx, hb, hml, hown, htA⟩ (c_S_isZero l dC dI a4 H.size hi lo ex) (cwV 0 htA (gi_V k_37 k_38 k_39 k_36 (gi_code k_31)) rfl rfl rfl (by decide +kernel) ⟨Nat.le_of_ble_eq_true rfl, Nat.le_of_ble_eq_true rfl⟩) (pre_V hnw hPc hKc hDc (ci := 2) (q0 := 0) rfl rfl) rfl rfl hl.1 rfl (lv_room (Nat.le_of_ble_eq_true rfl)) d_S_takeRoot_1 ⟨Nat.le_of_ble_eq_true rfl, Nat.le_of_ble_eq_true rfl⟩) hS hFc hP hD [0] [] (wr := []) rfl rfl (by decide) (by decide) (fun H locs hP hD hS => ?_)
  have hP : va_P (dC, dI) classes [(a4, .inr (2, [.long hi, .long lo, .int ex]))] H := hP
  have hD : va_D A [(a4, .inr (2, [.long hi, .long lo, .int ex]))] := hD
  refine lv_if_eq (tgt := 8) hx hb d_S_takeRoot_4 (by decide) (fun c_4 => ?_) (fun c_4 => ?_)
  · skip
    have c_4 : ¬ (g_S_isZero hi lo) = true := b2i_z c_4
    refine lv_aload_n hx hb d_S_takeRoot_8 rfl (lv_at hl 0 rfl) ?_
    refine va_get (D := (dC, dI)) (ci := 2) (v := .int ex) (C := R_S) (T := F_S) (N := 3) hx hb htA in_S hown hK hP 0 rfl rfl 2 (by decide) (htA _ k_16) (fun _ h9 => h9) rfl d_S_takeRoot_9 ?_
    refine lv_iconst (v := 1) hx hb d_S_takeRoot_12 (by decide) ?_
    refine lv_iand hx hb d_S_takeRoot_13 ?_
    refine lv_istore_n (lv' := [(1, .int (ex &&& 1)), (0, .ref a4)]) hx hb d_S_takeRoot_14 rfl hl (by decide) rfl (fun ls hl => ?_)
    refine lv_aload_n hx hb d_S_takeRoot_15 rfl (lv_at hl 1 rfl) ?_
    refine va_get (D := (dC, dI)) (ci := 2) (v := .long hi) (C := R_S) (T := F_S) (N := 3) hx hb htA in_S hown hK hP 0 rfl rfl 0 (by decide) (htA _ k_14) (fun _ h9 => h9) rfl d_S_takeRoot_16 ?_
    refine lv_iload_n hx hb d_S_takeRoot_19 rfl (lv_at hl 0 rfl) ?_
    refine lv_lushr (v := (uR hi (ex &&& 1))) hx hb d_S_takeRoot_20 rfl ?_
    refine lv_lstore_n (lv' := [(2, .long (uR hi (ex &&& 1))), (1, .int (ex &&& 1)), (0, .ref a4)]) hx hb d_S_takeRoot_21 rfl hl (by decide) rfl (fun ls hl => ?_)
    refine lv_iload_n hx hb d_S_takeRoot_22 rfl (lv_at hl 1 rfl) ?_
    refine cut_join (X := Int64) 0 0 (fun (x : Int64) (H : Heap) (locs : List Loc) (ls : Array Slot) => (if (ex &&& 1) = 0 then 0 else (sL hi 63)) = x ∧ va_P (dC, dI) classes [(a4, .inr (2, [.long hi, .long lo, .int ex]))] H ∧ va_D A [(a4, .inr (2, [.long hi, .long lo, .int ex]))] ∧ va_S A s.heap H locs ∧ lv_has ls 13 [(0, .ref a4), (1, .int (ex &&& 1)), (2, .long (uR hi (ex &&& 1)))]) (fun x ls => F0 m 37 ls [.long x]) ?_ (fun J37 => ?_)
    · skip
      rintro j37_0 H locs ls ⟨ej37_0, hP, hD, hS, hl⟩
      have ej37_0 : (if (ex &&& 1) = 0 then 0 else (sL hi 63)) = j37_0 := ej37_0
      have hP : va_P (dC, dI) classes [(a4, .inr (2, [.long hi, .long lo, .int ex]))] H := hP
      have hD : va_D A [(a4, .inr (2, [.long hi, .long lo, .int ex]))] := hD
      have hl : lv_has ls 13 [(0, .ref a4), (1, .int (ex &&& 1)), (2, .long (uR hi (ex &&& 1)))] := hl
      refine lv_lstore (lv' := [(4, .long j37_0), (0, .ref a4), (1, .int (ex &&& 1)), (2, .long (uR hi (ex &&& 1)))]) hx hb d_S_takeRoot_37 hl (by decide) rfl (fun ls hl => ?_)
      refine lv_lconst (v := 0) hx hb d_S_takeRoot_39 (by decide) ?_
      refine lv_lstore (lv' := [(6, .long 0), (4, .long j37_0), (0, .ref a4), (1, .int (ex &&& 1)), (2, .long (uR hi (ex &&& 1)))]) hx hb d_S_takeRoot_40 hl (by decide) rfl (fun ls hl => ?_)
      refine lv_bipush (v := 63) hx hb d_S_takeRoot_42 (by decide) ?_
      refine lv_istore (lv' := [(8, .int 63), (6, .long 0), (4, .long j37_0), (0, .ref a4), (1, .int (ex &&& 1)), (2, .long (uR hi (ex &&& 1)))]) hx hb d_S_takeRoot_44 hl (by decide) rfl (fun ls hl => ?_)
      refine loop_cut (S := Int64 × Int32 × Int64 × Int64) (nx_S_takeRoot_46 hi ex j37_0) 64 (0, 63, hi, lo) (S_takeRoot_end hi ex j37_0 lo) 0 0 (fun (x : Int64 × Int32 × Int64 × Int64) (H : Heap) (locs : List Loc) (ls : Array Slot) => va_P (dC, dI) classes [(a4, .inr (2, [.long x.2.2.1, .long x.2.2.2, .int ex]))] H ∧ va_D A [(a4, .inr (2, [.long x.2.2.1, .long x.2.2.2, .int ex]))] ∧ va_S A s.heap H locs ∧ lv_has ls 13 [(0, .ref a4), (1, .int (ex &&& 1)), (2, .long (uR hi (ex &&& 1))), (4, .long j37_0), (6, .long x.1), (8, .int x.2.1)]) (fun x ls => F0 m 46 ls []) (fun x ls => F0 m 88 ls []) ?_ ?_ H locs ls ⟨hP.sub [0] rfl, hD.sub [0] (by decide) rfl, hS, lv_sub hl [3, 4, 5, 2, 1, 0] rfl⟩
      · skip
        rintro ⟨v46_0, v46_1, v46_2, v46_3⟩ hex hbk H locs ls ⟨hP, hD, hS, hl⟩
        have hP : va_P (dC, dI) classes [(a4, .inr (2, [.long v46_2, .long v46_3, .int ex]))] H := hP
        have hD : va_D A [(a4, .inr (2, [.long v46_2, .long v46_3, .int ex]))] := hD
        have hl : lv_has ls 13 [(0, .ref a4), (1, .int (ex &&& 1)), (2, .long (uR hi (ex &&& 1))), (4, .long j37_0), (6, .long v46_0), (8, .int v46_1)] := hl
        refine lv_iload hx hb d_S_takeRoot_46 (lv_at hl 5 rfl) ?_
        refine lv_if_lt (tgt := 88) hx hb d_S_takeRoot_48 (by decide) (fun c_48 => ?_) (fun c_48 => ?_)
        · skip
          exact hex (by clear hP hD hl hS; unfold nx_S_takeRoot_46; (try dsimp only); rw [if_pos c_48]) H locs ls ⟨hP.sub [0] rfl, hD.sub [0] (by decide) rfl, hS, lv_sub hl [0, 1, 2, 3, 4, 5] rfl⟩
        · skip
          refine lv_lload hx hb d_S_takeRoot_51 (lv_at hl 4 rfl) ?_
          refine lv_lconst (v := 1) hx hb d_S_takeRoot_53 (by decide) ?_
          refine lv_iload hx hb d_S_takeRoot_54 (lv_at hl 5 rfl) ?_
          refine lv_lshl (v := (sL 1 v46_1)) hx hb d_S_takeRoot_56 rfl ?_
          refine lv_lor hx hb d_S_takeRoot_57 ?_
          refine lv_lstore (lv' := [(9, .long (v46_0 ||| (sL 1 v46_1))), (0, .ref a4), (1, .int (ex &&& 1)), (2, .long (uR hi (ex &&& 1))), (4, .long j37_0), (6, .long v46_0), (8, .int v46_1)]) hx hb d_S_takeRoot_58 hl (by decide) rfl (fun ls hl => ?_)
          refine lv_aload_n hx hb d_S_takeRoot_60 rfl (lv_at hl 1 rfl) ?_
          refine lv_lload hx hb d_S_takeRoot_61 (lv_at hl 0 rfl) ?_
          refine lv_lload hx hb d_S_takeRoot_63 (lv_at hl 0 rfl) ?_
          have hPc := hP.sub (ws' := [(a4, .inr (2, [.long v46_2, .long v46_3, .int ex]))]) [0] rfl
          have hDc := hD.sub (ws' := [(a4, .inr (2, [.long v46_2, .long v46_3, .int ex]))]) [0] (by decide) rfl
          have hKc := hK.sub (tys' := []) [] rfl
          have hFc := va_free (wc := [(a4, .inr (2, [.long v46_2, .long v46_3, .int ex]))]) hD hS hA [0] rfl
          refine cc_v (va_runV (As := [.long (v46_0 ||| (sL 1 v46_1)), .long (v46_0 ||| (sL 1 v46_1))]) (rest := []) ⟨hx, hb, hml, hown, htA⟩ (c_S_takeProduct l dC dI a4 H.size v46_2 v46_3 ex (v46_0 ||| (sL 1 v46_1)) (v46_0 ||| (sL 1 v46_1))) (cwV 2 htA (gi_V k_60 k_61 k_62 k_36 (gi_code k_59)) rfl rfl rfl (by decide +kernel) ⟨Nat.le_of_ble_eq_true rfl, Nat.le_of_ble_eq_true rfl⟩) (pre_V hnw hPc hKc hDc (ci := 2) (q0 := 0) rfl rfl) rfl rfl hl.1 rfl (lv_room (Nat.le_of_ble_eq_true rfl)) d_S_takeRoot_65 ⟨Nat.le_of_ble_eq_true rfl, Nat.le_of_ble_eq_true rfl⟩) hS hFc hP hD [0] [] (wr := []) rfl rfl (by decide) (by decide) (fun H locs hP hD hS => ?_)
          obtain ⟨z65, ez65⟩ : ∃ z, g_S_takeProduct (v46_0 ||| (sL 1 v46_1)) (v46_0 ||| (sL 1 v46_1)) = z := ⟨_, rfl⟩
          rw [ez65] at hP hD
          have hP : va_P (dC, dI) classes [(a4, .inr (2, [.long z65.1, .long z65.2, .int ex]))] H := hP
          have hD : va_D A [(a4, .inr (2, [.long z65.1, .long z65.2, .int ex]))] := hD
          refine lv_aload_n hx hb d_S_takeRoot_68 rfl (lv_at hl 1 rfl) ?_
          refine lv_lload_n hx hb d_S_takeRoot_69 rfl (lv_at hl 3 rfl) ?_
          refine lv_lload hx hb d_S_takeRoot_70 (lv_at hl 4 rfl) ?_
          have hPc := hP.sub (ws' := [(a4, .inr (2, [.long z65.1, .long z65.2, .int ex]))]) [0] rfl
          have hDc := hD.sub (ws' := [(a4, .inr (2, [.long z65.1, .long z65.2, .int ex]))]) [0] (by decide) rfl
          have hKc := hK.sub (tys' := []) [] rfl
          have hFc := va_free (wc := [(a4, .inr (2, [.long z65.1, .long z65.2, .int ex]))]) hD hS hA [0] rfl
          refine cc_i (va_runV (As := [.long (uR hi (ex &&& 1)), .long j37_0]) (rest := []) ⟨hx, hb, hml, hown, htA⟩ (c_S_isAbove l dC dI a4 H.size z65.1 z65.2 ex (uR hi (ex &&& 1)) j37_0) (cwV 2 htA (gi_V k_68 k_69 k_70 k_36 (gi_code k_65)) rfl rfl rfl (by decide +kernel) ⟨Nat.le_of_ble_eq_true rfl, Nat.le_of_ble_eq_true rfl⟩) (pre_V hnw hPc hKc hDc (ci := 2) (q0 := 0) rfl rfl) rfl rfl hl.1 rfl (lv_room (Nat.le_of_ble_eq_true rfl)) d_S_takeRoot_72 ⟨Nat.le_of_ble_eq_true rfl, Nat.le_of_ble_eq_true rfl⟩) hS hFc hP hD [0] [] (wr := []) rfl rfl (by decide) (by decide) (fun H locs hP hD hS => ?_)
          have hP : va_P (dC, dI) classes [(a4, .inr (2, [.long z65.1, .long z65.2, .int ex]))] H := hP
          have hD : va_D A [(a4, .inr (2, [.long z65.1, .long z65.2, .int ex]))] := hD
          refine cut_join (X := Int64) 0 0 (fun (x : Int64) (H : Heap) (locs : List Loc) (ls : Array Slot) => (if (g_S_isAbove z65.1 z65.2 (uR hi (ex &&& 1)) j37_0) = true then v46_0 else (v46_0 ||| (sL 1 v46_1))) = x ∧ va_P (dC, dI) classes [(a4, .inr (2, [.long z65.1, .long z65.2, .int ex]))] H ∧ va_D A [(a4, .inr (2, [.long z65.1, .long z65.2, .int ex]))] ∧ va_S A s.heap H locs ∧ lv_has ls 13 [(0, .ref a4), (1, .int (ex &&& 1)), (2, .long (uR hi (ex &&& 1))), (4, .long j37_0), (6, .long x), (8, .int v46_1), (9, .long (v46_0 ||| (sL 1 v46_1)))]) (fun x ls => F0 m 82 ls []) ?_ (fun J82 => ?_)
          · skip
            rintro j82_0 H locs ls ⟨ej82_0, hP, hD, hS, hl⟩
            have ej82_0 : (if (g_S_isAbove z65.1 z65.2 (uR hi (ex &&& 1)) j37_0) = true then v46_0 else (v46_0 ||| (sL 1 v46_1))) = j82_0 := ej82_0
            have hP : va_P (dC, dI) classes [(a4, .inr (2, [.long z65.1, .long z65.2, .int ex]))] H := hP
            have hD : va_D A [(a4, .inr (2, [.long z65.1, .long z65.2, .int ex]))] := hD
            have hl : lv_has ls 13 [(0, .ref a4), (1, .int (ex &&& 1)), (2, .long (uR hi (ex &&& 1))), (4, .long j37_0), (6, .long j82_0), (8, .int v46_1), (9, .long (v46_0 ||| (sL 1 v46_1)))] := hl
            refine lv_iinc (v := (v46_1 + (-1))) (lv' := [(8, .int (v46_1 + (-1))), (0, .ref a4), (1, .int (ex &&& 1)), (2, .long (uR hi (ex &&& 1))), (4, .long j37_0), (6, .long j82_0), (9, .long (v46_0 ||| (sL 1 v46_1)))]) hx hb d_S_takeRoot_82 hl (k := 5) rfl rfl (by decide) rfl (fun ls hl => ?_)
            refine lv_goto (tgt := 46) hx hb d_S_takeRoot_85 (by decide) ?_
            exact hbk (j82_0, (v46_1 + (-1)), z65.1, z65.2) (by clear hP hD hl hS; subst ej82_0; subst ez65; unfold nx_S_takeRoot_46; (try dsimp only); rw [if_neg c_48]) H locs ls ⟨hP.sub [0] rfl, hD.sub [0] (by decide) rfl, hS, lv_sub hl [1, 2, 3, 4, 5, 0] rfl⟩
          · skip
            refine lv_if_ne (tgt := 82) hx hb d_S_takeRoot_75 (by decide) (fun c_75 => ?_) (fun c_75 => ?_)
            · skip
              have c_75 : (g_S_isAbove z65.1 z65.2 (uR hi (ex &&& 1)) j37_0) = true := b2i_nz c_75
              exact J82 (v46_0) H locs ls ⟨by clear hP hD hl hS; (try dsimp only); rw [if_pos c_75], hP.sub [0] rfl, hD.sub [0] (by decide) rfl, hS, lv_sub hl [1, 2, 3, 4, 5, 6, 0] rfl⟩
            · skip
              have c_75 : ¬ (g_S_isAbove z65.1 z65.2 (uR hi (ex &&& 1)) j37_0) = true := b2i_z c_75
              refine lv_lload hx hb d_S_takeRoot_78 (lv_at hl 0 rfl) ?_
              refine lv_lstore (lv' := [(6, .long (v46_0 ||| (sL 1 v46_1))), (9, .long (v46_0 ||| (sL 1 v46_1))), (0, .ref a4), (1, .int (ex &&& 1)), (2, .long (uR hi (ex &&& 1))), (4, .long j37_0), (8, .int v46_1)]) hx hb d_S_takeRoot_80 hl (by decide) rfl (fun ls hl => ?_)
              exact J82 ((v46_0 ||| (sL 1 v46_1))) H locs ls ⟨by clear hP hD hl hS; (try dsimp only); rw [if_neg c_75], hP.sub [0] rfl, hD.sub [0] (by decide) rfl, hS, lv_sub hl [2, 3, 4, 5, 0, 6, 1] rfl⟩
      · skip
        rintro ⟨v46_0, v46_1, v46_2, v46_3⟩ H locs ls ev ⟨hP, hD, hS, hl⟩
        have ev46_0 : (lrun (nx_S_takeRoot_46 hi ex j37_0) 64 (0, 63, hi, lo)).1 = v46_0 := by rw [← ev]
        have ev46_1 : (lrun (nx_S_takeRoot_46 hi ex j37_0) 64 (0, 63, hi, lo)).2.1 = v46_1 := by rw [← ev]
        have ev46_2 : (lrun (nx_S_takeRoot_46 hi ex j37_0) 64 (0, 63, hi, lo)).2.2.1 = v46_2 := by rw [← ev]
        have ev46_3 : (lrun (nx_S_takeRoot_46 hi ex j37_0) 64 (0, 63, hi, lo)).2.2.2 = v46_3 := by rw [← ev]
        clear ev
        have hP : va_P (dC, dI) classes [(a4, .inr (2, [.long v46_2, .long v46_3, .int ex]))] H := hP
        have hD : va_D A [(a4, .inr (2, [.long v46_2, .long v46_3, .int ex]))] := hD
        have hl : lv_has ls 13 [(0, .ref a4), (1, .int (ex &&& 1)), (2, .long (uR hi (ex &&& 1))), (4, .long j37_0), (6, .long v46_0), (8, .int v46_1)] := hl
        refine lv_aload_n hx hb d_S_takeRoot_88 rfl (lv_at hl 0 rfl) ?_
        refine lv_lload hx hb d_S_takeRoot_89 (lv_at hl 4 rfl) ?_
        refine lv_lload hx hb d_S_takeRoot_91 (lv_at hl 4 rfl) ?_
        have hPc := hP.sub (ws' := [(a4, .inr (2, [.long v46_2, .long v46_3, .int ex]))]) [0] rfl
        have hDc := hD.sub (ws' := [(a4, .inr (2, [.long v46_2, .long v46_3, .int ex]))]) [0] (by decide) rfl
        have hKc := hK.sub (tys' := []) [] rfl
        have hFc := va_free (wc := [(a4, .inr (2, [.long v46_2, .long v46_3, .int ex]))]) hD hS hA [0] rfl
        refine cc_v (va_runV (As := [.long v46_0, .long v46_0]) (rest := []) ⟨hx, hb, hml, hown, htA⟩ (c_S_takeProduct l dC dI a4 H.size v46_2 v46_3 ex v46_0 v46_0) (cwV 2 htA (gi_V k_60 k_61 k_62 k_36 (gi_code k_59)) rfl rfl rfl (by decide +kernel) ⟨Nat.le_of_ble_eq_true rfl, Nat.le_of_ble_eq_true rfl⟩) (pre_V hnw hPc hKc hDc (ci := 2) (q0 := 0) rfl rfl) rfl rfl hl.1 rfl (lv_room (Nat.le_of_ble_eq_true rfl)) d_S_takeRoot_93 ⟨Nat.le_of_ble_eq_true rfl, Nat.le_of_ble_eq_true rfl⟩) hS hFc hP hD [0] [] (wr := []) rfl rfl (by decide) (by decide) (fun H locs hP hD hS => ?_)
        obtain ⟨z93, ez93⟩ : ∃ z, g_S_takeProduct v46_0 v46_0 = z := ⟨_, rfl⟩
        rw [ez93] at hP hD
        have hP : va_P (dC, dI) classes [(a4, .inr (2, [.long z93.1, .long z93.2, .int ex]))] H := hP
        have hD : va_D A [(a4, .inr (2, [.long z93.1, .long z93.2, .int ex]))] := hD
        refine lv_lload hx hb d_S_takeRoot_96 (lv_at hl 3 rfl) ?_
        refine lv_aload_n hx hb d_S_takeRoot_98 rfl (lv_at hl 0 rfl) ?_
        refine va_get (D := (dC, dI)) (ci := 2) (v := .long z93.2) (C := R_S) (T := F_S) (N := 3) hx hb htA in_S hown hK hP 0 rfl rfl 1 (by decide) (htA _ k_15) (fun _ h9 => h9) rfl d_S_takeRoot_99 ?_
        have hPc := hP.sub (ws' := []) [] rfl
        have hDc := hD.sub (ws' := []) [] (by decide) rfl
        have hKc := hK.sub (tys' := []) [] rfl
        have hFc := va_free (wc := []) hD hS hA [] rfl
        refine cc_i (va_runS (As := [.long j37_0, .long z93.2]) (rest := []) ⟨hx, hb, hml, hown, htA⟩ (c_Lg_compareUnsigned l dC dI H.size j37_0 z93.2) (va_cwS 2 htA (gi_S k_33 k_34 k_2 (gi_code k_5)) rfl rfl rfl (by decide +kernel) ⟨Nat.le_of_ble_eq_true rfl, Nat.le_of_ble_eq_true rfl⟩) (pre_S hnw hPc hKc hDc) rfl rfl hl.1 rfl (lv_room (Nat.le_of_ble_eq_true rfl)) d_S_takeRoot_102 ⟨Nat.le_of_ble_eq_true rfl, Nat.le_of_ble_eq_true rfl⟩) hS hFc hP hD [] [0] (wr := [(a4, .inr (2, [.long z93.1, .long z93.2, .int ex]))]) rfl rfl (by decide) (by decide) (fun H locs hP hD hS => ?_)
        have hP : va_P (dC, dI) classes [(a4, .inr (2, [.long z93.1, .long z93.2, .int ex]))] H := hP
        have hD : va_D A [(a4, .inr (2, [.long z93.1, .long z93.2, .int ex]))] := hD
        refine cut_join (X := Bool) 0 0 (fun (x : Bool) (H : Heap) (locs : List Loc) (ls : Array Slot) => (if uN z93.2 ≤ uN j37_0 then false else true) = x ∧ va_P (dC, dI) classes [(a4, .inr (2, [.long z93.1, .long z93.2, .int ex]))] H ∧ va_D A [(a4, .inr (2, [.long z93.1, .long z93.2, .int ex]))] ∧ va_S A s.heap H locs ∧ lv_has ls 13 [(0, .ref a4), (1, .int (ex &&& 1)), (2, .long (uR hi (ex &&& 1))), (4, .long j37_0), (6, .long v46_0), (8, .int v46_1)]) (fun x ls => F0 m 113 ls [.int (b2i x)]) ?_ (fun J113 => ?_)
        · skip
          rintro j113_0 H locs ls ⟨ej113_0, hP, hD, hS, hl⟩
          have ej113_0 : (if uN z93.2 ≤ uN j37_0 then false else true) = j113_0 := ej113_0
          have hP : va_P (dC, dI) classes [(a4, .inr (2, [.long z93.1, .long z93.2, .int ex]))] H := hP
          have hD : va_D A [(a4, .inr (2, [.long z93.1, .long z93.2, .int ex]))] := hD
          have hl : lv_has ls 13 [(0, .ref a4), (1, .int (ex &&& 1)), (2, .long (uR hi (ex &&& 1))), (4, .long j37_0), (6, .long v46_0), (8, .int v46_1)] := hl
          refine lv_istore (lv' := [(8, .int (b2i j113_0)), (0, .ref a4), (1, .int (ex &&& 1)), (2, .long (uR hi (ex &&& 1))), (4, .long j37_0), (6, .long v46_0)]) hx hb d_S_takeRoot_113 hl (by decide) rfl (fun ls hl => ?_)
          refine lv_lload hx hb d_S_takeRoot_115 (lv_at hl 4 rfl) ?_
          refine lv_aload_n hx hb d_S_takeRoot_117 rfl (lv_at hl 1 rfl) ?_
          refine va_get (D := (dC, dI)) (ci := 2) (v := .long z93.2) (C := R_S) (T := F_S) (N := 3) hx hb htA in_S hown hK hP 0 rfl rfl 1 (by decide) (htA _ k_15) (fun _ h9 => h9) rfl d_S_takeRoot_118 ?_
          refine lv_lsub hx hb d_S_takeRoot_121 ?_
          refine lv_lstore (lv' := [(9, .long (j37_0 - z93.2)), (8, .int (b2i j113_0)), (0, .ref a4), (1, .int (ex &&& 1)), (2, .long (uR hi (ex &&& 1))), (4, .long j37_0), (6, .long v46_0)]) hx hb d_S_takeRoot_122 hl (by decide) rfl (fun ls hl => ?_)
          refine lv_lload_n hx hb d_S_takeRoot_124 rfl (lv_at hl 4 rfl) ?_
          refine lv_aload_n hx hb d_S_takeRoot_125 rfl (lv_at hl 2 rfl) ?_
          refine va_get (D := (dC, dI)) (ci := 2) (v := .long z93.1) (C := R_S) (T := F_S) (N := 3) hx hb htA in_S hown hK hP 0 rfl rfl 0 (by decide) (htA _ k_14) (fun _ h9 => h9) rfl d_S_takeRoot_126 ?_
          refine lv_lsub hx hb d_S_takeRoot_129 ?_
          refine lv_iload hx hb d_S_takeRoot_130 (lv_at hl 1 rfl) ?_
          refine lv_i2l (v := (b2i j113_0).toInt64) hx hb d_S_takeRoot_132 rfl ?_
          refine lv_lsub hx hb d_S_takeRoot_133 ?_
          refine lv_lstore (lv' := [(11, .long (((uR hi (ex &&& 1)) - z93.1) - ((b2i j113_0).toInt64))), (9, .long (j37_0 - z93.2)), (8, .int (b2i j113_0)), (0, .ref a4), (1, .int (ex &&& 1)), (2, .long (uR hi (ex &&& 1))), (4, .long j37_0), (6, .long v46_0)]) hx hb d_S_takeRoot_134 hl (by decide) rfl (fun ls hl => ?_)
          refine lv_aload_n hx hb d_S_takeRoot_136 rfl (lv_at hl 3 rfl) ?_
          refine lv_lload hx hb d_S_takeRoot_137 (lv_at hl 7 rfl) ?_
          refine va_put (D := (dC, dI)) (ci := 2) (v := .long v46_0) (ty := .long) (C := R_S) (T := F_S) (N := 3) hx hb htA in_S t_S t_S_ok n_S hown hK hP hD hS 0 rfl rfl 0 (by decide) (htA _ k_14) (fun _ h9 => h9) rfl (by decide +kernel) rfl rfl (Nat.le_of_ble_eq_true rfl) d_S_takeRoot_139 (fun H locs hP hD hS => ?_)
          have hP : va_P (dC, dI) classes [(a4, .inr (2, [.long v46_0, .long z93.2, .int ex]))] H := hP
          have hD : va_D A [(a4, .inr (2, [.long v46_0, .long z93.2, .int ex]))] := hD
          refine lv_aload_n hx hb d_S_takeRoot_142 rfl (lv_at hl 3 rfl) ?_
          refine lv_lload hx hb d_S_takeRoot_143 (lv_at hl 7 rfl) ?_
          refine lv_lload hx hb d_S_takeRoot_145 (lv_at hl 0 rfl) ?_
          refine lv_lload hx hb d_S_takeRoot_147 (lv_at hl 1 rfl) ?_
          have hPc := hP.sub (ws' := []) [] rfl
          have hDc := hD.sub (ws' := []) [] (by decide) rfl
          have hKc := hK.sub (tys' := []) [] rfl
          have hFc := va_free (wc := []) hD hS hA [] rfl
          refine cc_l (va_runS (As := [.long v46_0, .long (((uR hi (ex &&& 1)) - z93.1) - ((b2i j113_0).toInt64)), .long (j37_0 - z93.2)]) (rest := [.ref a4]) ⟨hx, hb, hml, hown, htA⟩ (c_S_digitsBelowRoot l dC dI H.size v46_0 (((uR hi (ex &&& 1)) - z93.1) - ((b2i j113_0).toInt64)) (j37_0 - z93.2)) (va_cwS 3 htA (gi_S k_71 k_72 k_36 (gi_code k_67)) rfl rfl rfl (by decide +kernel) ⟨Nat.le_of_ble_eq_true rfl, Nat.le_of_ble_eq_true rfl⟩) (pre_S hnw hPc hKc hDc) rfl rfl hl.1 rfl (lv_room (Nat.le_of_ble_eq_true rfl)) d_S_takeRoot_149 ⟨Nat.le_of_ble_eq_true rfl, Nat.le_of_ble_eq_true rfl⟩) hS hFc hP hD [] [0] (wr := [(a4, .inr (2, [.long v46_0, .long z93.2, .int ex]))]) rfl rfl (by decide) (by decide) (fun H locs hP hD hS => ?_)
          have hP : va_P (dC, dI) classes [(a4, .inr (2, [.long v46_0, .long z93.2, .int ex]))] H := hP
          have hD : va_D A [(a4, .inr (2, [.long v46_0, .long z93.2, .int ex]))] := hD
          refine va_put (D := (dC, dI)) (ci := 2) (v := .long (g_S_digitsBelowRoot v46_0 (((uR hi (ex &&& 1)) - z93.1) - ((b2i j113_0).toInt64)) (j37_0 - z93.2))) (ty := .long) (C := R_S) (T := F_S) (N := 3) hx hb htA in_S t_S t_S_ok n_S hown hK hP hD hS 0 rfl rfl 1 (by decide) (htA _ k_15) (fun _ h9 => h9) rfl (by decide +kernel) rfl rfl (Nat.le_of_ble_eq_true rfl) d_S_takeRoot_152 (fun H locs hP hD hS => ?_)
          have hP : va_P (dC, dI) classes [(a4, .inr (2, [.long v46_0, .long (g_S_digitsBelowRoot v46_0 (((uR hi (ex &&& 1)) - z93.1) - ((b2i j113_0).toInt64)) (j37_0 - z93.2)), .int ex]))] H := hP
          have hD : va_D A [(a4, .inr (2, [.long v46_0, .long (g_S_digitsBelowRoot v46_0 (((uR hi (ex &&& 1)) - z93.1) - ((b2i j113_0).toInt64)) (j37_0 - z93.2)), .int ex]))] := hD
          refine lv_aload_n hx hb d_S_takeRoot_155 rfl (lv_at hl 3 rfl) ?_
          refine lv_aload_n hx hb d_S_takeRoot_156 rfl (lv_at hl 3 rfl) ?_
          refine va_get (D := (dC, dI)) (ci := 2) (v := .int ex) (C := R_S) (T := F_S) (N := 3) hx hb htA in_S hown hK hP 0 rfl rfl 2 (by decide) (htA _ k_16) (fun _ h9 => h9) rfl d_S_takeRoot_157 ?_
          refine lv_iload_n hx hb d_S_takeRoot_160 rfl (lv_at hl 4 rfl) ?_
          refine lv_iadd hx hb d_S_takeRoot_161 ?_
          refine lv_bipush (v := 64) hx hb d_S_takeRoot_162 (by decide) ?_
          refine lv_isub hx hb d_S_takeRoot_164 ?_
          refine lv_iconst (v := 2) hx hb d_S_takeRoot_165 (by decide) ?_
          refine lv_idiv hx hb d_S_takeRoot_166 (by decide) ?_
          refine va_put (D := (dC, dI)) (ci := 2) (v := .int (((ex + (ex &&& 1)) - 64) / 2)) (ty := .int) (C := R_S) (T := F_S) (N := 3) hx hb htA in_S t_S t_S_ok n_S hown hK hP hD hS 0 rfl rfl 2 (by decide) (htA _ k_16) (fun _ h9 => h9) rfl (by decide +kernel) rfl rfl (Nat.le_of_ble_eq_true rfl) d_S_takeRoot_167 (fun H locs hP hD hS => ?_)
          have hP : va_P (dC, dI) classes [(a4, .inr (2, [.long v46_0, .long (g_S_digitsBelowRoot v46_0 (((uR hi (ex &&& 1)) - z93.1) - ((b2i j113_0).toInt64)) (j37_0 - z93.2)), .int (((ex + (ex &&& 1)) - 64) / 2)]))] H := hP
          have hD : va_D A [(a4, .inr (2, [.long v46_0, .long (g_S_digitsBelowRoot v46_0 (((uR hi (ex &&& 1)) - z93.1) - ((b2i j113_0).toInt64)) (j37_0 - z93.2)), .int (((ex + (ex &&& 1)) - 64) / 2)]))] := hD
          have hE : g_S_takeRoot hi lo ex = (v46_0, (g_S_digitsBelowRoot v46_0 (((uR hi (ex &&& 1)) - z93.1) - ((b2i j113_0).toInt64)) (j37_0 - z93.2)), (((ex + (ex &&& 1)) - 64) / 2)) := by clear hP hD hl hS; subst ej113_0; subst ez93; subst ev46_3; subst ev46_2; subst ev46_1; subst ev46_0; subst ej37_0; unfold g_S_takeRoot; (try dsimp only); rw [if_neg c_4]
          have hP9 : va_P (dC, dI) classes [(a4, .inr (2, [.long ((g_S_takeRoot hi lo ex).1), .long ((g_S_takeRoot hi lo ex).2.1), .int ((g_S_takeRoot hi lo ex).2.2)]))] H := by rw [hE]; exact hP.sub [0] rfl
          have hD9 : va_D A [(a4, .inr (2, [.long ((g_S_takeRoot hi lo ex).1), .long ((g_S_takeRoot hi lo ex).2.1), .int ((g_S_takeRoot hi lo ex).2.2)]))] := by rw [hE]; exact hD.sub [0] (by decide) rfl
          exact W.vret hx hb hr (fun t ht hW => ⟨⟨(), rfl, trivial, by rw [ht]; exact hP9, hD9⟩, hS.F ht⟩) hS.2.2 d_S_takeRoot_170
        · skip
          refine lv_if_ge (tgt := 112) hx hb d_S_takeRoot_105 (by decide) (fun c_105 => ?_) (fun c_105 => ?_)
          · skip
            have c_105 : uN z93.2 ≤ uN j37_0 := (cU_ge _ _).mp c_105
            refine lv_iconst (v := 0) hx hb d_S_takeRoot_112 (by decide) ?_
            exact J113 (false) H locs ls ⟨by clear hP hD hl hS; (try dsimp only); rw [if_pos c_105], hP.sub [0] rfl, hD.sub [0] (by decide) rfl, hS, lv_sub hl [0, 1, 2, 3, 4, 5] rfl⟩
          · skip
            have c_105 : ¬ uN z93.2 ≤ uN j37_0 := fun h9 => c_105 ((cU_ge _ _).mpr h9)
            refine lv_iconst (v := 1) hx hb d_S_takeRoot_108 (by decide) ?_
            refine lv_goto (tgt := 113) hx hb d_S_takeRoot_109 (by decide) ?_
            exact J113 (true) H locs ls ⟨by clear hP hD hl hS; (try dsimp only); rw [if_neg c_105], hP.sub [0] rfl, hD.sub [0] (by decide) rfl, hS, lv_sub hl [0, 1, 2, 3, 4, 5] rfl⟩
    · skip
      refine lv_if_ne (tgt := 30) hx hb d_S_takeRoot_23 (by decide) (fun c_23 => ?_) (fun c_23 => ?_)
      · skip
        refine lv_aload_n hx hb d_S_takeRoot_30 rfl (lv_at hl 2 rfl) ?_
        refine va_get (D := (dC, dI)) (ci := 2) (v := .long hi) (C := R_S) (T := F_S) (N := 3) hx hb htA in_S hown hK hP 0 rfl rfl 0 (by decide) (htA _ k_14) (fun _ h9 => h9) rfl d_S_takeRoot_31 ?_
        refine lv_bipush (v := 63) hx hb d_S_takeRoot_34 (by decide) ?_
        refine lv_lshl (v := (sL hi 63)) hx hb d_S_takeRoot_36 rfl ?_
        exact J37 ((sL hi 63)) H locs ls ⟨by clear hP hD hl hS; (try dsimp only); rw [if_neg c_23], hP.sub [0] rfl, hD.sub [0] (by decide) rfl, hS, lv_sub hl [2, 1, 0] rfl⟩
      · skip
        refine lv_lconst (v := 0) hx hb d_S_takeRoot_26 (by decide) ?_
        refine lv_goto (tgt := 37) hx hb d_S_takeRoot_27 (by decide) ?_
        exact J37 (0) H locs ls ⟨by clear hP hD hl hS; (try dsimp only); rw [if_pos c_23], hP.sub [0] rfl, hD.sub [0] (by decide) rfl, hS, lv_sub hl [2, 1, 0] rfl⟩
  · skip
    have c_4 : (g_S_isZero hi lo) = true := b2i_nz c_4
    have hE : g_S_takeRoot hi lo ex = (hi, lo, ex) := by clear hP hD hl hS; unfold g_S_takeRoot; (try dsimp only); rw [if_pos c_4]
    have hP9 : va_P (dC, dI) classes [(a4, .inr (2, [.long ((g_S_takeRoot hi lo ex).1), .long ((g_S_takeRoot hi lo ex).2.1), .int ((g_S_takeRoot hi lo ex).2.2)]))] H := by rw [hE]; exact hP.sub [0] rfl
    have hD9 : va_D A [(a4, .inr (2, [.long ((g_S_takeRoot hi lo ex).1), .long ((g_S_takeRoot hi lo ex).2.1), .int ((g_S_takeRoot hi lo ex).2.2)]))] := by rw [hE]; exact hD.sub [0] (by decide) rfl
    exact W.vret hx hb hr (fun t ht hW => ⟨⟨(), rfl, trivial, by rw [ht]; exact hP9, hD9⟩, hS.F ht⟩) hS.2.2 d_S_takeRoot_7
