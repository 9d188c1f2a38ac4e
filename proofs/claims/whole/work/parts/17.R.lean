theorem d_R_putSize_0 : decode b_R_putSize 0 = .ok (.aload_n 2, 1) := by decide +kernel
theorem d_R_putSize_1 : decode b_R_putSize 1 = .ok (.invokevirtual 28, 3) := by decide +kernel
theorem d_R_putSize_4 : decode b_R_putSize 4 = .ok (.istore_n 3, 1) := by decide +kernel
theorem d_R_putSize_5 : decode b_R_putSize 5 = .ok (.aload_n 2, 1) := by decide +kernel
theorem d_R_putSize_6 : decode b_R_putSize 6 = .ok (.invokevirtual 33, 3) := by decide +kernel
theorem d_R_putSize_9 : decode b_R_putSize 9 = .ok (.ifCond .eq 13, 3) := by decide +kernel
theorem d_R_putSize_22 : decode b_R_putSize 22 = .ok (.iload_n 3, 1) := by decide +kernel
theorem d_R_putSize_23 : decode b_R_putSize 23 = .ok (.iconst 1, 1) := by decide +kernel
theorem d_R_putSize_24 : decode b_R_putSize 24 = .ok (.if_icmp .ge 20, 3) := by decide +kernel
theorem d_R_putSize_44 : decode b_R_putSize 44 = .ok (.aload_n 0, 1) := by decide +kernel
theorem d_R_putSize_45 : decode b_R_putSize 45 = .ok (.iload_n 1, 1) := by decide +kernel
theorem d_R_putSize_46 : decode b_R_putSize 46 = .ok (.iload_n 3, 1) := by decide +kernel
theorem d_R_putSize_47 : decode b_R_putSize 47 = .ok (.aload_n 2, 1) := by decide +kernel
theorem d_R_putSize_48 : decode b_R_putSize 48 = .ok (.getfield 37, 3) := by decide +kernel
theorem d_R_putSize_51 : decode b_R_putSize 51 = .ok (.invokevirtual 24, 3) := by decide +kernel
theorem d_R_putSize_54 : decode b_R_putSize 54 = .ok (.return_, 1) := by decide +kernel
theorem d_R_putSize_27 : decode b_R_putSize 27 = .ok (.aload_n 0, 1) := by decide +kernel
theorem d_R_putSize_28 : decode b_R_putSize 28 = .ok (.iload_n 1, 1) := by decide +kernel
theorem d_R_putSize_29 : decode b_R_putSize 29 = .ok (.iconst 0, 1) := by decide +kernel
theorem d_R_putSize_30 : decode b_R_putSize 30 = .ok (.aload_n 2, 1) := by decide +kernel
theorem d_R_putSize_31 : decode b_R_putSize 31 = .ok (.getfield 37, 3) := by decide +kernel
theorem d_R_putSize_34 : decode b_R_putSize 34 = .ok (.iconst 1, 1) := by decide +kernel
theorem d_R_putSize_35 : decode b_R_putSize 35 = .ok (.iload_n 3, 1) := by decide +kernel
theorem d_R_putSize_36 : decode b_R_putSize 36 = .ok (.isub, 1) := by decide +kernel
theorem d_R_putSize_37 : decode b_R_putSize 37 = .ok (.lushr, 1) := by decide +kernel
theorem d_R_putSize_38 : decode b_R_putSize 38 = .ok (.invokevirtual 24, 3) := by decide +kernel
theorem d_R_putSize_41 : decode b_R_putSize 41 = .ok (.goto 13, 3) := by decide +kernel
theorem d_R_putSize_12 : decode b_R_putSize 12 = .ok (.aload_n 0, 1) := by decide +kernel
theorem d_R_putSize_13 : decode b_R_putSize 13 = .ok (.iload_n 1, 1) := by decide +kernel
theorem d_R_putSize_14 : decode b_R_putSize 14 = .ok (.iconst 0, 1) := by decide +kernel
theorem d_R_putSize_15 : decode b_R_putSize 15 = .ok (.lconst 0, 1) := by decide +kernel
theorem d_R_putSize_16 : decode b_R_putSize 16 = .ok (.invokevirtual 24, 3) := by decide +kernel
theorem d_R_putSize_19 : decode b_R_putSize 19 = .ok (.goto 35, 3) := by decide +kernel
set_option maxHeartbeats 4000000 in
set_option maxRecDepth 100000 in
theorem c_R_putSize (l : Launch) (dC : Nat → ClassId) (dI : Nat → Nat → Nat) (a1 : Nat) (a4 : Nat) (sz : Nat) (n1 : Bool) (p1 : Int32) (f1 : Int64) (hi : Int64) (lo : Int64) (ex : Int32) (bn : Bool) : Met l y_R_putSize w_R_putSize ({ frames := 1, cells := 0, slots := 0, locals := 24 }) (cPc (dC, dI) [] [.ref a1, .int (b2i bn), .ref a4] [(a1, .inr (1, [.int (b2i n1), .int p1, .long f1])), (a4, .inr (2, [.long hi, .long lo, .int ex]))] sz) (va_Qv (fun (_ : Unit) => True) (fun _ t => va_P (dC, dI) classes [(a1, .inr (1, [.int (b2i bn), .int ((g_R_putSize hi lo ex).1), .long ((g_R_putSize hi lo ex).2)])), (a4, .inr (2, [.long hi, .long lo, .int ex]))] t.heap ∧ va_D (va_A [(a1, .inr (1, [.int (b2i n1), .int p1, .long f1])), (a4, .inr (2, [.long hi, .long lo, .int ex]))] sz) [(a1, .inr (1, [.int (b2i bn), .int ((g_R_putSize hi lo ex).1), .long ((g_R_putSize hi lo ex).2)])), (a4, .inr (2, [.long hi, .long lo, .int ex]))]) (va_A [(a1, .inr (1, [.int (b2i n1), .int p1, .long f1])), (a4, .inr (2, [.long hi, .long lo, .int ex]))] sz)) 0 0 (va_A [(a1, .inr (1, [.int (b2i n1), .int p1, .long f1])), (a4, .inr (2, [.long hi, .long lo, .int ex]))] sz) := by
  refine Met.ofW (cc := b_R_putSize) (maxL := 4) (ret := none) (by decide) rfl ?_
  intro p e s m args below meth c s₁ B hml hv
  obtain ⟨rfl, hsz, hP, hK, hD0, hnw⟩ := hv
  have hx := B.exec
  have hb := B.bytes
  have hr := B.returns
  have hts := atoms_spec (ws := w_R_putSize) B.pre
  have htA : ∀ w ∈ wAll, w.before _ s = true := fun w h => hts w (List.mem_cons_of_mem _ h)
  have hown : s.vm.findClass R_R = some m.cls := findClass_of_methodNamed B.named
  have hlocks := B.notSynchronized
  subst hsz
  have hD := hD0.self (sz := s.heap.size)
  generalize hAe : va_A [(a1, .inr (1, [.int (b2i n1), .int p1, .long f1])), (a4, .inr (2, [.long hi, .long lo, .int ex]))] s.heap.size = A at hD ⊢
  have hA : ∀ q : Nat, s.heap.size ≤ q → A q := fun q h => by rw [← hAe]; exact Or.inr h
  have hS : va_S A s.heap s.heap [] := va_S.rf
  have hP : va_P (dC, dI) classes [(a1, .inr (1, [.int (b2i n1), .int p1, .long f1])), (a4, .inr (2, [.long hi, .long lo, .int ex]))] s.heap := hP
  obtain ⟨H, eH⟩ : ∃ z, z = s.heap := ⟨_, rfl⟩
  rw [← eH] at hP
  have hS : va_S A s.heap H [] := by rw [eH]; exact hS
  rw [← eH]
  generalize ([] : List Loc) = locs at hS ⊢
  have hl := lv_entry ([.ref a1, .int (b2i bn), .ref a4]) (n := 4) (Nat.le_of_ble_eq_true rfl)
  rw [lg_entry_eq]
  generalize (lg_sl ([.ref a1, .int (b2i bn), .ref a4]) ++ List.replicate (4 - (lg_sl ([.ref a1, .int (b2i bn), .ref a4])).length) Slot.unset).toArray = ls at hl ⊢
  have hl : lv_has ls 4 [(0, .ref a1), (1, .int (b2i bn)), (2, .ref a4)] := hl
  refine lv_aload_n hx hb d_R_putSize_0 rfl (lv_at hl 2 rfl) ?_
  have hPc := hP.sub (ws' := [(a4, .inr (2, [.long hi, .long lo, .int ex]))]) [1] rfl
  have hDc := hD.sub (ws' := [(a4, .inr (2, [.long hi, .long lo, .int ex]))]) [1] (by decide) rfl
  have hKc := hK.sub (tys' := []) [] rfl
  have hFc := va_free (wc := [(a4, .inr (2, [.long hi, .long lo, .int ex]))]) hD hS hA [1] rfl
  refine cc_i (va_runVN (As := []) (rest := []) ⟨hx, hb, hml, hown, htA⟩ (c_S_power l dC dI a4 H.size hi lo ex) ⟨va_cnB 0 htA (gi_code k_32) rfl rfl rfl (hnw _ n_2) (htA _ k_36) (by decide +kernel) ⟨Nat.le_of_ble_eq_true rfl, Nat.le_of_ble_eq_true rfl⟩, htA _ k_83, htA _ k_84⟩ (pre_V hnw hPc hKc hDc (ci := 2) (q0 := 0) rfl rfl) rfl rfl hl.1 rfl (lv_room (Nat.le_of_ble_eq_true rfl)) d_R_putSize_1 ⟨Nat.le_of_ble_eq_true rfl, Nat.le_of_ble_eq_true rfl⟩) hS hFc hP hD [1] [0] (wr := [(a1, .inr (1, [.int (b2i n1), .int p1, .long f1]))]) rfl rfl (by decide) (by decide) (fun H locs hP hD hS => ?_)
  have hP : va_P (dC, dI) classes [(a1, .inr (1, [.int (b2i n1), .int p1, .long f1])), (a4, .inr (2, [.long hi, .long lo, .int ex]))] H := hP
  have hD : va_D A [(a1, .inr (1, [.int (b2i n1), .int p1, .long f1])), (a4, .inr (2, [.long hi, .long lo, .int ex]))] := hD
  refine lv_istore_n (lv' := [(3, .int (g_S_power ex)), (0, .ref a1), (1, .int (b2i bn)), (2, .ref a4)]) hx hb d_R_putSize_4 rfl hl (by decide) rfl (fun ls hl => ?_)
  refine lv_aload_n hx hb d_R_putSize_5 rfl (lv_at hl 3 rfl) ?_
  have hPc := hP.sub (ws' := [(a4, .inr (2, [.long hi, .long lo, .int ex]))]) [1] rfl
  have hDc := hD.sub (ws' := [(a4, .inr (2, [.long hi, .long lo, .int ex]))]) [1] (by decide) rfl
  have hKc := hK.sub (tys' := []) [] rfl
  have hFc := va_free (wc := [(a4, .inr (2, [.long hi, .long lo, .int ex]))]) hD hS hA [1] rfl
  refine cc_i (va_runVN (As := []) (rest := []) ⟨hx, hb, hml, hown, htA⟩ (c_S_isZero l dC dI a4 H.size hi lo ex) ⟨va_cnB 0 htA (gi_code k_31) rfl rfl rfl (hnw _ n_3) (htA _ k_36) (by decide +kernel) ⟨Nat.le_of_ble_eq_true rfl, Nat.le_of_ble_eq_true rfl⟩, htA _ k_38, htA _ k_39⟩ (pre_V hnw hPc hKc hDc (ci := 2) (q0 := 0) rfl rfl) rfl rfl hl.1 rfl (lv_room (Nat.le_of_ble_eq_true rfl)) d_R_putSize_6 ⟨Nat.le_of_ble_eq_true rfl, Nat.le_of_ble_eq_true rfl⟩) hS hFc hP hD [1] [0] (wr := [(a1, .inr (1, [.int (b2i n1), .int p1, .long f1]))]) rfl rfl (by decide) (by decide) (fun H locs hP hD hS => ?_)
  have hP : va_P (dC, dI) classes [(a1, .inr (1, [.int (b2i n1), .int p1, .long f1])), (a4, .inr (2, [.long hi, .long lo, .int ex]))] H := hP
  have hD : va_D A [(a1, .inr (1, [.int (b2i n1), .int p1, .long f1])), (a4, .inr (2, [.long hi, .long lo, .int ex]))] := hD
  refine lv_if_eq (tgt := 22) hx hb d_R_putSize_9 (by decide) (fun c_9 => ?_) (fun c_9 => ?_)
  · skip
    have c_9 : ¬ (g_S_isZero hi lo) = true := b2i_z c_9
    refine lv_iload_n hx hb d_R_putSize_22 rfl (lv_at hl 0 rfl) ?_
    refine lv_iconst (v := 1) hx hb d_R_putSize_23 (by decide) ?_
    refine lv_icmp_ge (tgt := 44) hx hb d_R_putSize_24 (by decide) (fun c_24 => ?_) (fun c_24 => ?_)
    · skip
      refine lv_aload_n hx hb d_R_putSize_44 rfl (lv_at hl 1 rfl) ?_
      refine lv_iload_n hx hb d_R_putSize_45 rfl (lv_at hl 2 rfl) ?_
      refine lv_iload_n hx hb d_R_putSize_46 rfl (lv_at hl 0 rfl) ?_
      refine lv_aload_n hx hb d_R_putSize_47 rfl (lv_at hl 3 rfl) ?_
      refine va_getN (D := (dC, dI)) (ci := 2) (v := .long hi) (C := R_S) (T := F_S) (N := 3) hx hb htA in_S hown hK hP 1 rfl rfl 0 (by decide) (va_Nw.use rfl (hnw _ n_4)) (fun _ h9 => h9) rfl d_R_putSize_48 ?_
      have hPc := hP.sub (ws' := [(a1, .inr (1, [.int (b2i n1), .int p1, .long f1]))]) [0] rfl
      have hDc := hD.sub (ws' := [(a1, .inr (1, [.int (b2i n1), .int p1, .long f1]))]) [0] (by decide) rfl
      have hKc := hK.sub (tys' := []) [] rfl
      have hFc := va_free (wc := [(a1, .inr (1, [.int (b2i n1), .int p1, .long f1]))]) hD hS hA [0] rfl
      refine cc_v (va_runV (As := [.int (b2i bn), .int (g_S_power ex), .long hi]) (rest := []) ⟨hx, hb, hml, hown, htA⟩ (c_R_put l dC dI a1 H.size n1 p1 f1 bn (g_S_power ex) hi) (cwV 3 htA (gi_V k_21 k_22 k_23 k_20 (gi_code k_18)) rfl rfl rfl (by decide +kernel) ⟨Nat.le_of_ble_eq_true rfl, Nat.le_of_ble_eq_true rfl⟩) (pre_V hnw hPc hKc hDc (ci := 1) (q0 := 0) rfl rfl) rfl rfl hl.1 rfl (lv_room (Nat.le_of_ble_eq_true rfl)) d_R_putSize_51 ⟨Nat.le_of_ble_eq_true rfl, Nat.le_of_ble_eq_true rfl⟩) hS hFc hP hD [0] [1] (wr := [(a4, .inr (2, [.long hi, .long lo, .int ex]))]) rfl rfl (by decide) (by decide) (fun H locs hP hD hS => ?_)
      have hP : va_P (dC, dI) classes [(a4, .inr (2, [.long hi, .long lo, .int ex])), (a1, .inr (1, [.int (b2i bn), .int (g_S_power ex), .long hi]))] H := hP
      have hD : va_D A [(a4, .inr (2, [.long hi, .long lo, .int ex])), (a1, .inr (1, [.int (b2i bn), .int (g_S_power ex), .long hi]))] := hD
      have hE : g_R_putSize hi lo ex = ((g_S_power ex), hi) := by clear hP hD hl hS; unfold g_R_putSize; (try dsimp only); rw [if_neg c_9, if_pos c_24]
      have hP9 : va_P (dC, dI) classes [(a1, .inr (1, [.int (b2i bn), .int ((g_R_putSize hi lo ex).1), .long ((g_R_putSize hi lo ex).2)])), (a4, .inr (2, [.long hi, .long lo, .int ex]))] H := by rw [hE]; exact hP.sub [1, 0] rfl
      have hD9 : va_D A [(a1, .inr (1, [.int (b2i bn), .int ((g_R_putSize hi lo ex).1), .long ((g_R_putSize hi lo ex).2)])), (a4, .inr (2, [.long hi, .long lo, .int ex]))] := by rw [hE]; exact hD.sub [1, 0] (by decide) rfl
      exact W.vret hx hb hr (fun t ht hW => ⟨⟨(), rfl, trivial, by rw [ht]; exact hP9, hD9⟩, hS.F ht⟩) hS.2.2 d_R_putSize_54
    · skip
      refine lv_aload_n hx hb d_R_putSize_27 rfl (lv_at hl 1 rfl) ?_
      refine lv_iload_n hx hb d_R_putSize_28 rfl (lv_at hl 2 rfl) ?_
      refine lv_iconst (v := 0) hx hb d_R_putSize_29 (by decide) ?_
      refine lv_aload_n hx hb d_R_putSize_30 rfl (lv_at hl 3 rfl) ?_
      refine va_getN (D := (dC, dI)) (ci := 2) (v := .long hi) (C := R_S) (T := F_S) (N := 3) hx hb htA in_S hown hK hP 1 rfl rfl 0 (by decide) (va_Nw.use rfl (hnw _ n_4)) (fun _ h9 => h9) rfl d_R_putSize_31 ?_
      refine lv_iconst (v := 1) hx hb d_R_putSize_34 (by decide) ?_
      refine lv_iload_n hx hb d_R_putSize_35 rfl (lv_at hl 0 rfl) ?_
      refine lv_isub hx hb d_R_putSize_36 ?_
      refine lv_lushr (v := (uR hi (1 - (g_S_power ex)))) hx hb d_R_putSize_37 rfl ?_
      have hPc := hP.sub (ws' := [(a1, .inr (1, [.int (b2i n1), .int p1, .long f1]))]) [0] rfl
      have hDc := hD.sub (ws' := [(a1, .inr (1, [.int (b2i n1), .int p1, .long f1]))]) [0] (by decide) rfl
      have hKc := hK.sub (tys' := []) [] rfl
      have hFc := va_free (wc := [(a1, .inr (1, [.int (b2i n1), .int p1, .long f1]))]) hD hS hA [0] rfl
      refine cc_v (va_runV (As := [.int (b2i bn), .int 0, .long (uR hi (1 - (g_S_power ex)))]) (rest := []) ⟨hx, hb, hml, hown, htA⟩ (c_R_put l dC dI a1 H.size n1 p1 f1 bn 0 (uR hi (1 - (g_S_power ex)))) (cwV 3 htA (gi_V k_21 k_22 k_23 k_20 (gi_code k_18)) rfl rfl rfl (by decide +kernel) ⟨Nat.le_of_ble_eq_true rfl, Nat.le_of_ble_eq_true rfl⟩) (pre_V hnw hPc hKc hDc (ci := 1) (q0 := 0) rfl rfl) rfl rfl hl.1 rfl (lv_room (Nat.le_of_ble_eq_true rfl)) d_R_putSize_38 ⟨Nat.le_of_ble_eq_true rfl, Nat.le_of_ble_eq_true rfl⟩) hS hFc hP hD [0] [1] (wr := [(a4, .inr (2, [.long hi, .long lo, .int ex]))]) rfl rfl (by decide) (by decide) (fun H locs hP hD hS => ?_)
      have hP : va_P (dC, dI) classes [(a4, .inr (2, [.long hi, .long lo, .int ex])), (a1, .inr (1, [.int (b2i bn), .int 0, .long (uR hi (1 - (g_S_power ex)))]))] H := hP
      have hD : va_D A [(a4, .inr (2, [.long hi, .long lo, .int ex])), (a1, .inr (1, [.int (b2i bn), .int 0, .long (uR hi (1 - (g_S_power ex)))]))] := hD
      refine lv_goto (tgt := 54) hx hb d_R_putSize_41 (by decide) ?_
      have hE : g_R_putSize hi lo ex = (0, (uR hi (1 - (g_S_power ex)))) := by clear hP hD hl hS; unfold g_R_putSize; (try dsimp only); rw [if_neg c_9, if_neg c_24]
      have hP9 : va_P (dC, dI) classes [(a1, .inr (1, [.int (b2i bn), .int ((g_R_putSize hi lo ex).1), .long ((g_R_putSize hi lo ex).2)])), (a4, .inr (2, [.long hi, .long lo, .int ex]))] H := by rw [hE]; exact hP.sub [1, 0] rfl
      have hD9 : va_D A [(a1, .inr (1, [.int (b2i bn), .int ((g_R_putSize hi lo ex).1), .long ((g_R_putSize hi lo ex).2)])), (a4, .inr (2, [.long hi, .long lo, .int ex]))] := by rw [hE]; exact hD.sub [1, 0] (by decide) rfl
      exact W.vret hx hb hr (fun t ht hW => ⟨⟨(), rfl, trivial, by rw [ht]; exact hP9, hD9⟩, hS.F ht⟩) hS.2.2 d_R_putSize_54
  · skip
    have c_9 : (g_S_isZero hi lo) = true := b2i_nz c_9
    refine lv_aload_n hx hb d_R_putSize_12 rfl (lv_at hl 1 rfl) ?_
    refine lv_iload_n hx hb d_R_putSize_13 rfl (lv_at hl 2 rfl) ?_
    refine lv_iconst (v := 0) hx hb d_R_putSize_14 (by decide) ?_
    refine lv_lconst (v := 0) hx hb d_R_putSize_15 (by decide) ?_
    have hPc := hP.sub (ws' := [(a1, .inr (1, [.int (b2i n1), .int p1, .long f1]))]) [0] rfl
    have hDc := hD.sub (ws' := [(a1, .inr (1, [.int (b2i n1), .int p1, .long f1]))]) [0] (by decide) rfl
    have hKc := hK.sub (tys' := []) [] rfl
    have hFc := va_free (wc := [(a1, .inr (1, [.int (b2i n1), .int p1, .long f1]))]) hD hS hA [0] rfl
    refine cc_v (va_runV (As := [.int (b2i bn), .int 0, .long 0]) (rest := []) ⟨hx, hb, hml, hown, htA⟩ (c_R_put l dC dI a1 H.size n1 p1 f1 bn 0 0) (cwV 3 htA (gi_V k_21 k_22 k_23 k_20 (gi_code k_18)) rfl rfl rfl (by decide +kernel) ⟨Nat.le_of_ble_eq_true rfl, Nat.le_of_ble_eq_true rfl⟩) (pre_V hnw hPc hKc hDc (ci := 1) (q0 := 0) rfl rfl) rfl rfl hl.1 rfl (lv_room (Nat.le_of_ble_eq_true rfl)) d_R_putSize_16 ⟨Nat.le_of_ble_eq_true rfl, Nat.le_of_ble_eq_true rfl⟩) hS hFc hP hD [0] [1] (wr := [(a4, .inr (2, [.long hi, .long lo, .int ex]))]) rfl rfl (by decide) (by decide) (fun H locs hP hD hS => ?_)
    have hP : va_P (dC, dI) classes [(a4, .inr (2, [.long hi, .long lo, .int ex])), (a1, .inr (1, [.int (b2i bn), .int 0, .long 0]))] H := hP
    have hD : va_D A [(a4, .inr (2, [.long hi, .long lo, .int ex])), (a1, .inr (1, [.int (b2i bn), .int 0, .long 0]))] := hD
    refine lv_goto (tgt := 54) hx hb d_R_putSize_19 (by decide) ?_
    have hE : g_R_putSize hi lo ex = (0, 0) := by clear hP hD hl hS; unfold g_R_putSize; (try dsimp only); rw [if_pos c_9]
    have hP9 : va_P (dC, dI) classes [(a1, .inr (1, [.int (b2i bn), .int ((g_R_putSize hi lo ex).1), .long ((g_R_putSize hi lo ex).2)])), (a4, .inr (2, [.long hi, .long lo, .int ex]))] H := by rw [hE]; exact hP.sub [1, 0] rfl
    have hD9 : va_D A [(a1, .inr (1, [.int (b2i bn), .int ((g_R_putSize hi lo ex).1), .long ((g_R_putSize hi lo ex).2)])), (a4, .inr (2, [.long hi, .long lo, .int ex]))] := by rw [hE]; exact hD.sub [1, 0] (by decide) rfl
    exact W.vret hx hb hr (fun t ht hW => ⟨⟨(), rfl, trivial, by rw [ht]; exact hP9, hD9⟩, hS.F ht⟩) hS.2.2 d_R_putSize_54
