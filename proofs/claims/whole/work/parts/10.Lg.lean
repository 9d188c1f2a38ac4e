theorem d_Lg_compare_0 : decode b_Lg_compare 0 = .ok (.lload_n 0, 1) := by decide +kernel
theorem d_Lg_compare_1 : decode b_Lg_compare 1 = .ok (.lload_n 2, 1) := by decide +kernel
theorem d_Lg_compare_2 : decode b_Lg_compare 2 = .ok (.lcmp, 1) := by decide +kernel
theorem d_Lg_compare_3 : decode b_Lg_compare 3 = .ok (.ifCond .ge 7, 3) := by decide +kernel
theorem d_Lg_compare_10 : decode b_Lg_compare 10 = .ok (.lload_n 0, 1) := by decide +kernel
theorem d_Lg_compare_11 : decode b_Lg_compare 11 = .ok (.lload_n 2, 1) := by decide +kernel
theorem d_Lg_compare_12 : decode b_Lg_compare 12 = .ok (.lcmp, 1) := by decide +kernel
theorem d_Lg_compare_13 : decode b_Lg_compare 13 = .ok (.ifCond .ne 7, 3) := by decide +kernel
theorem d_Lg_compare_20 : decode b_Lg_compare 20 = .ok (.iconst 1, 1) := by decide +kernel
theorem d_Lg_compare_21 : decode b_Lg_compare 21 = .ok (.ireturn, 1) := by decide +kernel
theorem d_Lg_compare_16 : decode b_Lg_compare 16 = .ok (.iconst 0, 1) := by decide +kernel
theorem d_Lg_compare_17 : decode b_Lg_compare 17 = .ok (.goto 4, 3) := by decide +kernel
theorem d_Lg_compare_6 : decode b_Lg_compare 6 = .ok (.iconst (-1), 1) := by decide +kernel
theorem d_Lg_compare_7 : decode b_Lg_compare 7 = .ok (.goto 14, 3) := by decide +kernel
set_option maxHeartbeats 4000000 in
set_option maxRecDepth 100000 in
theorem c_Lg_compare (l : Launch) (dC : Nat → ClassId) (dI : Nat → Nat → Nat) (sz : Nat) (xa : Int64) (xb : Int64) : Met l y_Lg_compare w_Lg_compare ({ frames := 0, cells := 0, slots := 0, locals := 0 }) (cPc (dC, dI) [] [.long xa, .long xb] [] sz) (va_Qi (fun (r : Int32) (_ : Unit) => r = (g_Lg_compare xa xb)) (fun _ t => va_P (dC, dI) classes [] t.heap ∧ va_D (va_A [] sz) []) (va_A [] sz)) 0 0 (va_A [] sz) := by
  refine Met.ofW (cc := b_Lg_compare) (maxL := 4) (ret := (some .int)) (by decide) rfl ?_
  intro p e s m args below meth c s₁ B hml hv
  obtain ⟨rfl, hsz, hP, hK, hD0, hnw⟩ := hv
  have hx := B.exec
  have hb := B.bytes
  have hr := B.returns
  have hts := atoms_spec (ws := w_Lg_compare) B.pre
  have htA : ∀ w ∈ wAll, w.before _ s = true := fun w h => hts w (List.mem_cons_of_mem _ h)
  have hown : s.vm.findClass R_Lg = some m.cls := findClass_of_methodNamed B.named
  have hlocks := B.notSynchronized
  subst hsz
  have hD := hD0.self (sz := s.heap.size)
  generalize hAe : va_A [] s.heap.size = A at hD ⊢
  have hA : ∀ q : Nat, s.heap.size ≤ q → A q := fun q h => by rw [← hAe]; exact Or.inr h
  have hS : va_S A s.heap s.heap [] := va_S.rf
  have hP : va_P (dC, dI) classes [] s.heap := hP
  obtain ⟨H, eH⟩ : ∃ z, z = s.heap := ⟨_, rfl⟩
  rw [← eH] at hP
  have hS : va_S A s.heap H [] := by rw [eH]; exact hS
  rw [← eH]
  generalize ([] : List Loc) = locs at hS ⊢
  have hl := lv_entry ([.long xa, .long xb]) (n := 4) (Nat.le_of_ble_eq_true rfl)
  rw [lg_entry_eq]
  generalize (lg_sl ([.long xa, .long xb]) ++ List.replicate (4 - (lg_sl ([.long xa, .long xb])).length) Slot.unset).toArray = ls at hl ⊢
  have hl : lv_has ls 4 [(0, .long xa), (2, .long xb)] := hl
  refine lv_lload_n hx hb d_Lg_compare_0 rfl (lv_at hl 0 rfl) ?_
  refine lv_lload_n hx hb d_Lg_compare_1 rfl (lv_at hl 1 rfl) ?_
  refine W.lcmp hx hb d_Lg_compare_2 ?_
  refine lv_if_ge (tgt := 10) hx hb d_Lg_compare_3 (by decide) (fun c_3 => ?_) (fun c_3 => ?_)
  · skip
    have c_3 : xb ≤ xa := (lg_cmp_ge _ _).mp c_3
    refine lv_lload_n hx hb d_Lg_compare_10 rfl (lv_at hl 0 rfl) ?_
    refine lv_lload_n hx hb d_Lg_compare_11 rfl (lv_at hl 1 rfl) ?_
    refine W.lcmp hx hb d_Lg_compare_12 ?_
    refine lv_if_ne (tgt := 20) hx hb d_Lg_compare_13 (by decide) (fun c_13 => ?_) (fun c_13 => ?_)
    · skip
      have c_13 : ¬ xa = xb := fun h9 => c_13 ((lg_cmp_eq _ _).mpr h9)
      refine lv_iconst (v := 1) hx hb d_Lg_compare_20 (by decide) ?_
      have hE : g_Lg_compare xa xb = (1) := by clear hP hD hl hS; unfold g_Lg_compare; (try dsimp only); rw [if_pos c_3, if_neg c_13]
      have hP9 : va_P (dC, dI) classes [] H := by exact hP.sub [] rfl
      have hD9 : va_D A [] := by exact hD.sub [] (by decide) rfl
      exact W.iret (v := 1) hx hb hr (fun t ht hW => ⟨⟨1, (), rfl, by rw [hE], by rw [ht]; exact hP9, hD9⟩, hS.F ht⟩) hS.2.2 d_Lg_compare_21
    · skip
      have c_13 : xa = xb := (lg_cmp_eq _ _).mp c_13
      refine lv_iconst (v := 0) hx hb d_Lg_compare_16 (by decide) ?_
      refine lv_goto (tgt := 21) hx hb d_Lg_compare_17 (by decide) ?_
      have hE : g_Lg_compare xa xb = (0) := by clear hP hD hl hS; unfold g_Lg_compare; (try dsimp only); rw [if_pos c_3, if_pos c_13]
      have hP9 : va_P (dC, dI) classes [] H := by exact hP.sub [] rfl
      have hD9 : va_D A [] := by exact hD.sub [] (by decide) rfl
      exact W.iret (v := 0) hx hb hr (fun t ht hW => ⟨⟨0, (), rfl, by rw [hE], by rw [ht]; exact hP9, hD9⟩, hS.F ht⟩) hS.2.2 d_Lg_compare_21
  · skip
    have c_3 : ¬ xb ≤ xa := fun h9 => c_3 ((lg_cmp_ge _ _).mpr h9)
    refine lv_iconst (v := (-1)) hx hb d_Lg_compare_6 (by decide) ?_
    refine lv_goto (tgt := 21) hx hb d_Lg_compare_7 (by decide) ?_
    have hE : g_Lg_compare xa xb = ((-1)) := by clear hP hD hl hS; unfold g_Lg_compare; (try dsimp only); rw [if_neg c_3]
    have hP9 : va_P (dC, dI) classes [] H := by exact hP.sub [] rfl
    have hD9 : va_D A [] := by exact hD.sub [] (by decide) rfl
    exact W.iret (v := (-1)) hx hb hr (fun t ht hW => ⟨⟨(-1), (), rfl, by rw [hE], by rw [ht]; exact hP9, hD9⟩, hS.F ht⟩) hS.2.2 d_Lg_compare_21
theorem d_Lg_compareUnsigned_0 : decode b_Lg_compareUnsigned 0 = .ok (.lload_n 0, 1) := by decide +kernel
theorem d_Lg_compareUnsigned_1 : decode b_Lg_compareUnsigned 1 = .ok (.ldc2_w 168, 3) := by decide +kernel
theorem d_Lg_compareUnsigned_4 : decode b_Lg_compareUnsigned 4 = .ok (.ladd, 1) := by decide +kernel
theorem d_Lg_compareUnsigned_5 : decode b_Lg_compareUnsigned 5 = .ok (.lload_n 2, 1) := by decide +kernel
theorem d_Lg_compareUnsigned_6 : decode b_Lg_compareUnsigned 6 = .ok (.ldc2_w 168, 3) := by decide +kernel
theorem d_Lg_compareUnsigned_9 : decode b_Lg_compareUnsigned 9 = .ok (.ladd, 1) := by decide +kernel
theorem d_Lg_compareUnsigned_10 : decode b_Lg_compareUnsigned 10 = .ok (.invokestatic 302, 3) := by decide +kernel
theorem d_Lg_compareUnsigned_13 : decode b_Lg_compareUnsigned 13 = .ok (.ireturn, 1) := by decide +kernel
set_option maxHeartbeats 4000000 in
set_option maxRecDepth 100000 in
theorem c_Lg_compareUnsigned (l : Launch) (dC : Nat → ClassId) (dI : Nat → Nat → Nat) (sz : Nat) (xa : Int64) (xb : Int64) : Met l y_Lg_compareUnsigned w_Lg_compareUnsigned ({ frames := 1, cells := 0, slots := 0, locals := 23 }) (cPc (dC, dI) [] [.long xa, .long xb] [] sz) (va_Qi (fun (r : Int32) (_ : Unit) => r = (g_Lg_compareUnsigned xa xb)) (fun _ t => va_P (dC, dI) classes [] t.heap ∧ va_D (va_A [] sz) []) (va_A [] sz)) 0 0 (va_A [] sz) := by
  refine Met.ofW (cc := b_Lg_compareUnsigned) (maxL := 4) (ret := (some .int)) (by decide) rfl ?_
  intro p e s m args below meth c s₁ B hml hv
  obtain ⟨rfl, hsz, hP, hK, hD0, hnw⟩ := hv
  have hx := B.exec
  have hb := B.bytes
  have hr := B.returns
  have hts := atoms_spec (ws := w_Lg_compareUnsigned) B.pre
  have htA : ∀ w ∈ wAll, w.before _ s = true := fun w h => hts w (List.mem_cons_of_mem _ h)
  have hown : s.vm.findClass R_Lg = some m.cls := findClass_of_methodNamed B.named
  have hlocks := B.notSynchronized
  subst hsz
  have hD := hD0.self (sz := s.heap.size)
  generalize hAe : va_A [] s.heap.size = A at hD ⊢
  have hA : ∀ q : Nat, s.heap.size ≤ q → A q := fun q h => by rw [← hAe]; exact Or.inr h
  have hS : va_S A s.heap s.heap [] := va_S.rf
  have hP : va_P (dC, dI) classes [] s.heap := hP
  obtain ⟨H, eH⟩ : ∃ z, z = s.heap := ⟨_, rfl⟩
  rw [← eH] at hP
  have hS : va_S A s.heap H [] := by rw [eH]; exact hS
  rw [← eH]
  generalize ([] : List Loc) = locs at hS ⊢
  have hl := lv_entry ([.long xa, .long xb]) (n := 4) (Nat.le_of_ble_eq_true rfl)
  rw [lg_entry_eq]
  generalize (lg_sl ([.long xa, .long xb]) ++ List.replicate (4 - (lg_sl ([.long xa, .long xb])).length) Slot.unset).toArray = ls at hl ⊢
  have hl : lv_has ls 4 [(0, .long xa), (2, .long xb)] := hl
  refine lv_lload_n hx hb d_Lg_compareUnsigned_0 rfl (lv_at hl 0 rfl) ?_
  refine lv_ldc2 (v := (-9223372036854775808)) hx hb hown (htA _ k_1) d_Lg_compareUnsigned_1 ?_
  refine lv_ladd hx hb d_Lg_compareUnsigned_4 ?_
  refine lv_lload_n hx hb d_Lg_compareUnsigned_5 rfl (lv_at hl 1 rfl) ?_
  refine lv_ldc2 (v := (-9223372036854775808)) hx hb hown (htA _ k_1) d_Lg_compareUnsigned_6 ?_
  refine lv_ladd hx hb d_Lg_compareUnsigned_9 ?_
  have hPc := hP.sub (ws' := []) [] rfl
  have hDc := hD.sub (ws' := []) [] (by decide) rfl
  have hKc := hK.sub (tys' := []) [] rfl
  have hFc := va_free (wc := []) hD hS hA [] rfl
  refine cc_i (va_runS (As := [.long (xa + (-9223372036854775808)), .long (xb + (-9223372036854775808))]) (rest := []) ⟨hx, hb, hml, hown, htA⟩ (c_Lg_compare l dC dI H.size (xa + (-9223372036854775808)) (xb + (-9223372036854775808))) (va_cwS 2 htA (gi_S k_3 k_4 k_2 (gi_code k_0)) rfl rfl rfl (by decide +kernel) ⟨Nat.le_of_ble_eq_true rfl, Nat.le_of_ble_eq_true rfl⟩) (pre_S hnw hPc hKc hDc) rfl rfl hl.1 rfl (lv_room (Nat.le_of_ble_eq_true rfl)) d_Lg_compareUnsigned_10 ⟨Nat.le_of_ble_eq_true rfl, Nat.le_of_ble_eq_true rfl⟩) hS hFc hP hD [] [] (wr := []) rfl rfl (by decide) (by decide) (fun H locs hP hD hS => ?_)
  have hP : va_P (dC, dI) classes [] H := hP
  have hD : va_D A [] := hD
  have hE : g_Lg_compareUnsigned xa xb = ((g_Lg_compare (xa + (-9223372036854775808)) (xb + (-9223372036854775808)))) := by clear hP hD hl hS; unfold g_Lg_compareUnsigned; rfl
  have hP9 : va_P (dC, dI) classes [] H := by exact hP.sub [] rfl
  have hD9 : va_D A [] := by exact hD.sub [] (by decide) rfl
  exact W.iret (v := (g_Lg_compare (xa + (-9223372036854775808)) (xb + (-9223372036854775808)))) hx hb hr (fun t ht hW => ⟨⟨(g_Lg_compare (xa + (-9223372036854775808)) (xb + (-9223372036854775808))), (), rfl, by rw [hE], by rw [ht]; exact hP9, hD9⟩, hS.F ht⟩) hS.2.2 d_Lg_compareUnsigned_13
