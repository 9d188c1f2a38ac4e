theorem d_O_isRegister_0 : decode b_O_isRegister 0 = .ok (.iload_n 0, 1) := by decide +kernel
theorem d_O_isRegister_1 : decode b_O_isRegister 1 = .ok (.ifCond .lt 13, 3) := by decide +kernel
theorem d_O_isRegister_14 : decode b_O_isRegister 14 = .ok (.iconst 0, 1) := by decide +kernel
theorem d_O_isRegister_15 : decode b_O_isRegister 15 = .ok (.ireturn, 1) := by decide +kernel
theorem d_O_isRegister_4 : decode b_O_isRegister 4 = .ok (.iload_n 0, 1) := by decide +kernel
theorem d_O_isRegister_5 : decode b_O_isRegister 5 = .ok (.bipush 8, 2) := by decide +kernel
theorem d_O_isRegister_7 : decode b_O_isRegister 7 = .ok (.if_icmp .ge 7, 3) := by decide +kernel
theorem d_O_isRegister_10 : decode b_O_isRegister 10 = .ok (.iconst 1, 1) := by decide +kernel
theorem d_O_isRegister_11 : decode b_O_isRegister 11 = .ok (.goto 4, 3) := by decide +kernel
set_option maxHeartbeats 4000000 in
set_option maxRecDepth 100000 in
theorem c_O_isRegister (l : Launch) (dC : Nat → ClassId) (dI : Nat → Nat → Nat) (sz : Nat) (iop : Int32) : Met l y_O_isRegister w_O_isRegister ({ frames := 0, cells := 0, slots := 0, locals := 0 }) (cPc (dC, dI) [] [.int iop] [] sz) (va_Qi (fun (r : Int32) (_ : Unit) => r = b2i ((g_O_isRegister iop))) (fun _ t => va_P (dC, dI) classes [] t.heap ∧ va_D (va_A [] sz) []) (va_A [] sz)) 0 0 (va_A [] sz) := by
  refine Met.ofW (cc := b_O_isRegister) (maxL := 1) (ret := (some .boolean)) (by decide) rfl ?_
  intro p e s m args below meth c s₁ B hml hv
  obtain ⟨rfl, hsz, hP, hK, hD0, hnw⟩ := hv
  have hx := B.exec
  have hb := B.bytes
  have hr := B.returns
  have hts := atoms_spec (ws := w_O_isRegister) B.pre
  have htA : ∀ w ∈ wAll, w.before _ s = true := fun w h => hts w (List.mem_cons_of_mem _ h)
  have hown : s.vm.findClass R_O = some m.cls := findClass_of_methodNamed B.named
  have hlocks := B.notSynchronized
  subst hsz
  have hD := hD0.self (sz := s.heap.size)
  generalize hAe : va_A [] s.heap.size = A at hD ⊢
  have hA : ∀ q : Nat, s.heap.size ≤ q → A q := fun q h => by rw [← hAe]; exact Or.inr h
  have hS : va_S A s.heap s.heap [] := va_S.rf
  have hP : va_P (dC, dI) classes [] s.heap := hP
  obtain ⟨H, eH⟩ : ∃ z, z = s.heap := ⟨_, rfl⟩
  rw [← eH] at hP
  have hS : va_S A s.heap H [] := by rw [eH]; exact hS
  rw [← eH]
  generalize ([] : List Loc) = locs at hS ⊢
  have hl := lv_entry ([.int iop]) (n := 1) (Nat.le_of_ble_eq_true rfl)
  rw [lg_entry_eq]
  generalize (lg_sl ([.int iop]) ++ List.replicate (1 - (lg_sl ([.int iop])).length) Slot.unset).toArray = ls at hl ⊢
  have hl : lv_has ls 1 [(0, .int iop)] := hl
  refine lv_iload_n hx hb d_O_isRegister_0 rfl (lv_at hl 0 rfl) ?_
  refine lv_if_lt (tgt := 14) hx hb d_O_isRegister_1 (by decide) (fun c_1 => ?_) (fun c_1 => ?_)
  · skip
    refine lv_iconst (v := 0) hx hb d_O_isRegister_14 (by decide) ?_
    have hE : g_O_isRegister iop = (false) := by clear hP hD hl hS; unfold g_O_isRegister; (try dsimp only); rw [if_pos c_1]
    have hP9 : va_P (dC, dI) classes [] H := by exact hP.sub [] rfl
    have hD9 : va_D A [] := by exact hD.sub [] (by decide) rfl
    exact W.zret (v := 0) hx hb hr (by first | exact nar_b2i _ | rfl) (fun t ht hW => ⟨⟨0, (), rfl, by rw [hE]; rfl, by rw [ht]; exact hP9, hD9⟩, hS.F ht⟩) hS.2.2 d_O_isRegister_15
  · skip
    refine lv_iload_n hx hb d_O_isRegister_4 rfl (lv_at hl 0 rfl) ?_
    refine lv_bipush (v := 8) hx hb d_O_isRegister_5 (by decide) ?_
    refine lv_icmp_ge (tgt := 14) hx hb d_O_isRegister_7 (by decide) (fun c_7 => ?_) (fun c_7 => ?_)
    · skip
      refine lv_iconst (v := 0) hx hb d_O_isRegister_14 (by decide) ?_
      have hE : g_O_isRegister iop = (false) := by clear hP hD hl hS; unfold g_O_isRegister; (try dsimp only); rw [if_neg c_1, if_pos c_7]
      have hP9 : va_P (dC, dI) classes [] H := by exact hP.sub [] rfl
      have hD9 : va_D A [] := by exact hD.sub [] (by decide) rfl
      exact W.zret (v := 0) hx hb hr (by first | exact nar_b2i _ | rfl) (fun t ht hW => ⟨⟨0, (), rfl, by rw [hE]; rfl, by rw [ht]; exact hP9, hD9⟩, hS.F ht⟩) hS.2.2 d_O_isRegister_15
    · skip
      refine lv_iconst (v := 1) hx hb d_O_isRegister_10 (by decide) ?_
      refine lv_goto (tgt := 15) hx hb d_O_isRegister_11 (by decide) ?_
      have hE : g_O_isRegister iop = (true) := by clear hP hD hl hS; unfold g_O_isRegister; (try dsimp only); rw [if_neg c_1, if_neg c_7]
      have hP9 : va_P (dC, dI) classes [] H := by exact hP.sub [] rfl
      have hD9 : va_D A [] := by exact hD.sub [] (by decide) rfl
      exact W.zret (v := 1) hx hb hr (by first | exact nar_b2i _ | rfl) (fun t ht hW => ⟨⟨1, (), rfl, by rw [hE]; rfl, by rw [ht]; exact hP9, hD9⟩, hS.F ht⟩) hS.2.2 d_O_isRegister_15
theorem d_O_hasSixteenBits_0 : decode b_O_hasSixteenBits 0 = .ok (.iload_n 0, 1) := by decide +kernel
theorem d_O_hasSixteenBits_1 : decode b_O_hasSixteenBits 1 = .ok (.ifCond .lt 13, 3) := by decide +kernel
theorem d_O_hasSixteenBits_14 : decode b_O_hasSixteenBits 14 = .ok (.iconst 0, 1) := by decide +kernel
theorem d_O_hasSixteenBits_15 : decode b_O_hasSixteenBits 15 = .ok (.ireturn, 1) := by decide +kernel
theorem d_O_hasSixteenBits_4 : decode b_O_hasSixteenBits 4 = .ok (.iload_n 0, 1) := by decide +kernel
theorem d_O_hasSixteenBits_5 : decode b_O_hasSixteenBits 5 = .ok (.ldc 93, 2) := by decide +kernel
theorem d_O_hasSixteenBits_7 : decode b_O_hasSixteenBits 7 = .ok (.if_icmp .gt 7, 3) := by decide +kernel
theorem d_O_hasSixteenBits_10 : decode b_O_hasSixteenBits 10 = .ok (.iconst 1, 1) := by decide +kernel
theorem d_O_hasSixteenBits_11 : decode b_O_hasSixteenBits 11 = .ok (.goto 4, 3) := by decide +kernel
set_option maxHeartbeats 4000000 in
set_option maxRecDepth 100000 in
theorem c_O_hasSixteenBits (l : Launch) (dC : Nat → ClassId) (dI : Nat → Nat → Nat) (sz : Nat) (iop : Int32) : Met l y_O_hasSixteenBits w_O_hasSixteenBits ({ frames := 0, cells := 0, slots := 0, locals := 0 }) (cPc (dC, dI) [] [.int iop] [] sz) (va_Qi (fun (r : Int32) (_ : Unit) => r = b2i ((g_O_hasSixteenBits iop))) (fun _ t => va_P (dC, dI) classes [] t.heap ∧ va_D (va_A [] sz) []) (va_A [] sz)) 0 0 (va_A [] sz) := by
  refine Met.ofW (cc := b_O_hasSixteenBits) (maxL := 1) (ret := (some .boolean)) (by decide) rfl ?_
  intro p e s m args below meth c s₁ B hml hv
  obtain ⟨rfl, hsz, hP, hK, hD0, hnw⟩ := hv
  have hx := B.exec
  have hb := B.bytes
  have hr := B.returns
  have hts := atoms_spec (ws := w_O_hasSixteenBits) B.pre
  have htA : ∀ w ∈ wAll, w.before _ s = true := fun w h => hts w (List.mem_cons_of_mem _ h)
  have hown : s.vm.findClass R_O = some m.cls := findClass_of_methodNamed B.named
  have hlocks := B.notSynchronized
  subst hsz
  have hD := hD0.self (sz := s.heap.size)
  generalize hAe : va_A [] s.heap.size = A at hD ⊢
  have hA : ∀ q : Nat, s.heap.size ≤ q → A q := fun q h => by rw [← hAe]; exact Or.inr h
  have hS : va_S A s.heap s.heap [] := va_S.rf
  have hP : va_P (dC, dI) classes [] s.heap := hP
  obtain ⟨H, eH⟩ : ∃ z, z = s.heap := ⟨_, rfl⟩
  rw [← eH] at hP
  have hS : va_S A s.heap H [] := by rw [eH]; exact hS
  rw [← eH]
  generalize ([] : List Loc) = locs at hS ⊢
  have hl := lv_entry ([.int iop]) (n := 1) (Nat.le_of_ble_eq_true rfl)
  rw [lg_entry_eq]
  generalize (lg_sl ([.int iop]) ++ List.replicate (1 - (lg_sl ([.int iop])).length) Slot.unset).toArray = ls at hl ⊢
  have hl : lv_has ls 1 [(0, .int iop)] := hl
  refine lv_iload_n hx hb d_O_hasSixteenBits_0 rfl (lv_at hl 0 rfl) ?_
  refine lv_if_lt (tgt := 14) hx hb d_O_hasSixteenBits_1 (by decide) (fun c_1 => ?_) (fun c_1 => ?_)
  · skip
    refine lv_iconst (v := 0) hx hb d_O_hasSixteenBits_14 (by decide) ?_
    have hE : g_O_hasSixteenBits iop = (false) := by clear hP hD hl hS; unfold g_O_hasSixteenBits; (try dsimp only); rw [if_pos c_1]
    have hP9 : va_P (dC, dI) classes [] H := by exact hP.sub [] rfl
    have hD9 : va_D A [] := by exact hD.sub [] (by decide) rfl
    exact W.zret (v := 0) hx hb hr (by first | exact nar_b2i _ | rfl) (fun t ht hW => ⟨⟨0, (), rfl, by rw [hE]; rfl, by rw [ht]; exact hP9, hD9⟩, hS.F ht⟩) hS.2.2 d_O_hasSixteenBits_15
  · skip
    refine lv_iload_n hx hb d_O_hasSixteenBits_4 rfl (lv_at hl 0 rfl) ?_
    refine lv_ldc (v := 65535) hx hb hown (htA _ k_87) d_O_hasSixteenBits_5 ?_
    refine lv_icmp_gt (tgt := 14) hx hb d_O_hasSixteenBits_7 (by decide) (fun c_7 => ?_) (fun c_7 => ?_)
    · skip
      refine lv_iconst (v := 0) hx hb d_O_hasSixteenBits_14 (by decide) ?_
      have hE : g_O_hasSixteenBits iop = (false) := by clear hP hD hl hS; unfold g_O_hasSixteenBits; (try dsimp only); rw [if_neg c_1, if_pos c_7]
      have hP9 : va_P (dC, dI) classes [] H := by exact hP.sub [] rfl
      have hD9 : va_D A [] := by exact hD.sub [] (by decide) rfl
      exact W.zret (v := 0) hx hb hr (by first | exact nar_b2i _ | rfl) (fun t ht hW => ⟨⟨0, (), rfl, by rw [hE]; rfl, by rw [ht]; exact hP9, hD9⟩, hS.F ht⟩) hS.2.2 d_O_hasSixteenBits_15
    · skip
      refine lv_iconst (v := 1) hx hb d_O_hasSixteenBits_10 (by decide) ?_
      refine lv_goto (tgt := 15) hx hb d_O_hasSixteenBits_11 (by decide) ?_
      have hE : g_O_hasSixteenBits iop = (true) := by clear hP hD hl hS; unfold g_O_hasSixteenBits; (try dsimp only); rw [if_neg c_1, if_neg c_7]
      have hP9 : va_P (dC, dI) classes [] H := by exact hP.sub [] rfl
      have hD9 : va_D A [] := by exact hD.sub [] (by decide) rfl
      exact W.zret (v := 1) hx hb hr (by first | exact nar_b2i _ | rfl) (fun t ht hW => ⟨⟨1, (), rfl, by rw [hE]; rfl, by rw [ht]; exact hP9, hD9⟩, hS.F ht⟩) hS.2.2 d_O_hasSixteenBits_15
theorem d_O_isDifference_0 : decode b_O_isDifference 0 = .ok (.iload_n 0, 1) := by decide +kernel
theorem d_O_isDifference_1 : decode b_O_isDifference 1 = .ok (.iconst 1, 1) := by decide +kernel
theorem d_O_isDifference_2 : decode b_O_isDifference 2 = .ok (.if_icmp .eq 8, 3) := by decide +kernel
theorem d_O_isDifference_10 : decode b_O_isDifference 10 = .ok (.iconst 1, 1) := by decide +kernel
theorem d_O_isDifference_11 : decode b_O_isDifference 11 = .ok (.goto 4, 3) := by decide +kernel
theorem d_O_isDifference_15 : decode b_O_isDifference 15 = .ok (.ireturn, 1) := by decide +kernel
theorem d_O_isDifference_5 : decode b_O_isDifference 5 = .ok (.iload_n 0, 1) := by decide +kernel
theorem d_O_isDifference_6 : decode b_O_isDifference 6 = .ok (.iconst 2, 1) := by decide +kernel
theorem d_O_isDifference_7 : decode b_O_isDifference 7 = .ok (.if_icmp .ne 7, 3) := by decide +kernel
theorem d_O_isDifference_14 : decode b_O_isDifference 14 = .ok (.iconst 0, 1) := by decide +kernel
set_option maxHeartbeats 4000000 in
set_option maxRecDepth 100000 in
theorem c_O_isDifference (l : Launch) (dC : Nat → ClassId) (dI : Nat → Nat → Nat) (sz : Nat) (iop : Int32) : Met l y_O_isDifference w_O_isDifference ({ frames := 0, cells := 0, slots := 0, locals := 0 }) (cPc (dC, dI) [] [.int iop] [] sz) (va_Qi (fun (r : Int32) (_ : Unit) => r = b2i ((g_O_isDifference iop))) (fun _ t => va_P (dC, dI) classes [] t.heap ∧ va_D (va_A [] sz) []) (va_A [] sz)) 0 0 (va_A [] sz) := by
  refine Met.ofW (cc := b_O_isDifference) (maxL := 1) (ret := (some .boolean)) (by decide) rfl ?_
  intro p e s m args below meth c s₁ B hml hv
  obtain ⟨rfl, hsz, hP, hK, hD0, hnw⟩ := hv
  have hx := B.exec
  have hb := B.bytes
  have hr := B.returns
  have hts := atoms_spec (ws := w_O_isDifference) B.pre
  have htA : ∀ w ∈ wAll, w.before _ s = true := fun w h => hts w (List.mem_cons_of_mem _ h)
  have hown : s.vm.findClass R_O = some m.cls := findClass_of_methodNamed B.named
  have hlocks := B.notSynchronized
  subst hsz
  have hD := hD0.self (sz := s.heap.size)
  generalize hAe : va_A [] s.heap.size = A at hD ⊢
  have hA : ∀ q : Nat, s.heap.size ≤ q → A q := fun q h => by rw [← hAe]; exact Or.inr h
  have hS : va_S A s.heap s.heap [] := va_S.rf
  have hP : va_P (dC, dI) classes [] s.heap := hP
  obtain ⟨H, eH⟩ : ∃ z, z = s.heap := ⟨_, rfl⟩
  rw [← eH] at hP
  have hS : va_S A s.heap H [] := by rw [eH]; exact hS
  rw [← eH]
  generalize ([] : List Loc) = locs at hS ⊢
  have hl := lv_entry ([.int iop]) (n := 1) (Nat.le_of_ble_eq_true rfl)
  rw [lg_entry_eq]
  generalize (lg_sl ([.int iop]) ++ List.replicate (1 - (lg_sl ([.int iop])).length) Slot.unset).toArray = ls at hl ⊢
  have hl : lv_has ls 1 [(0, .int iop)] := hl
  refine lv_iload_n hx hb d_O_isDifference_0 rfl (lv_at hl 0 rfl) ?_
  refine lv_iconst (v := 1) hx hb d_O_isDifference_1 (by decide) ?_
  refine lv_icmp_eq (tgt := 10) hx hb d_O_isDifference_2 (by decide) (fun c_2 => ?_) (fun c_2 => ?_)
  · skip
    refine lv_iconst (v := 1) hx hb d_O_isDifference_10 (by decide) ?_
    refine lv_goto (tgt := 15) hx hb d_O_isDifference_11 (by decide) ?_
    have hE : g_O_isDifference iop = (true) := by clear hP hD hl hS; unfold g_O_isDifference; (try dsimp only); rw [if_pos c_2]
    have hP9 : va_P (dC, dI) classes [] H := by exact hP.sub [] rfl
    have hD9 : va_D A [] := by exact hD.sub [] (by decide) rfl
    exact W.zret (v := 1) hx hb hr (by first | exact nar_b2i _ | rfl) (fun t ht hW => ⟨⟨1, (), rfl, by rw [hE]; rfl, by rw [ht]; exact hP9, hD9⟩, hS.F ht⟩) hS.2.2 d_O_isDifference_15
  · skip
    refine lv_iload_n hx hb d_O_isDifference_5 rfl (lv_at hl 0 rfl) ?_
    refine lv_iconst (v := 2) hx hb d_O_isDifference_6 (by decide) ?_
    refine lv_icmp_ne (tgt := 14) hx hb d_O_isDifference_7 (by decide) (fun c_7 => ?_) (fun c_7 => ?_)
    · skip
      refine lv_iconst (v := 0) hx hb d_O_isDifference_14 (by decide) ?_
      have hE : g_O_isDifference iop = (false) := by clear hP hD hl hS; unfold g_O_isDifference; (try dsimp only); rw [if_neg c_2, if_neg c_7]
      have hP9 : va_P (dC, dI) classes [] H := by exact hP.sub [] rfl
      have hD9 : va_D A [] := by exact hD.sub [] (by decide) rfl
      exact W.zret (v := 0) hx hb hr (by first | exact nar_b2i _ | rfl) (fun t ht hW => ⟨⟨0, (), rfl, by rw [hE]; rfl, by rw [ht]; exact hP9, hD9⟩, hS.F ht⟩) hS.2.2 d_O_isDifference_15
    · skip
      refine lv_iconst (v := 1) hx hb d_O_isDifference_10 (by decide) ?_
      refine lv_goto (tgt := 15) hx hb d_O_isDifference_11 (by decide) ?_
      have hE : g_O_isDifference iop = (true) := by clear hP hD hl hS; unfold g_O_isDifference; (try dsimp only); rw [if_neg c_2, if_pos c_7]
      have hP9 : va_P (dC, dI) classes [] H := by exact hP.sub [] rfl
      have hD9 : va_D A [] := by exact hD.sub [] (by decide) rfl
      exact W.zret (v := 1) hx hb hr (by first | exact nar_b2i _ | rfl) (fun t ht hW => ⟨⟨1, (), rfl, by rw [hE]; rfl, by rw [ht]; exact hP9, hD9⟩, hS.F ht⟩) hS.2.2 d_O_isDifference_15
theorem d_O_isSum_0 : decode b_O_isSum 0 = .ok (.iload_n 0, 1) := by decide +kernel
theorem d_O_isSum_1 : decode b_O_isSum 1 = .ok (.ifCond .eq 10, 3) := by decide +kernel
theorem d_O_isSum_11 : decode b_O_isSum 11 = .ok (.iconst 1, 1) := by decide +kernel
theorem d_O_isSum_12 : decode b_O_isSum 12 = .ok (.goto 4, 3) := by decide +kernel
theorem d_O_isSum_16 : decode b_O_isSum 16 = .ok (.ireturn, 1) := by decide +kernel
theorem d_O_isSum_4 : decode b_O_isSum 4 = .ok (.iload_n 0, 1) := by decide +kernel
theorem d_O_isSum_5 : decode b_O_isSum 5 = .ok (.invokestatic 94, 3) := by decide +kernel
theorem d_O_isSum_8 : decode b_O_isSum 8 = .ok (.ifCond .eq 7, 3) := by decide +kernel
theorem d_O_isSum_15 : decode b_O_isSum 15 = .ok (.iconst 0, 1) := by decide +kernel
set_option maxHeartbeats 4000000 in
set_option maxRecDepth 100000 in
theorem c_O_isSum (l : Launch) (dC : Nat → ClassId) (dI : Nat → Nat → Nat) (sz : Nat) (iop : Int32) : Met l y_O_isSum w_O_isSum ({ frames := 1, cells := 0, slots := 0, locals := 20 }) (cPc (dC, dI) [] [.int iop] [] sz) (va_Qi (fun (r : Int32) (_ : Unit) => r = b2i ((g_O_isSum iop))) (fun _ t => va_P (dC, dI) classes [] t.heap ∧ va_D (va_A [] sz) []) (va_A [] sz)) 0 0 (va_A [] sz) := by
  refine Met.ofW (cc := b_O_isSum) (maxL := 1) (ret := (some .boolean)) (by decide) rfl ?_
  intro p e s m args below meth c s₁ B hml hv
  obtain ⟨rfl, hsz, hP, hK, hD0, hnw⟩ := hv
  have hx := B.exec
  have hb := B.bytes
  have hr := B.returns
  have hts := atoms_spec (ws := w_O_isSum) B.pre
  have htA : ∀ w ∈ wAll, w.before _ s = true := fun w h => hts w (List.mem_cons_of_mem _ h)
  have hown : s.vm.findClass R_O = some m.cls := findClass_of_methodNamed B.named
  have hlocks := B.notSynchronized
  subst hsz
  have hD := hD0.self (sz := s.heap.size)
  generalize hAe : va_A [] s.heap.size = A at hD ⊢
  have hA : ∀ q : Nat, s.heap.size ≤ q → A q := fun q h => by rw [← hAe]; exact Or.inr h
  have hS : va_S A s.heap s.heap [] := va_S.rf
  have hP : va_P (dC, dI) classes [] s.heap := hP
  obtain ⟨H, eH⟩ : ∃ z, z = s.heap := ⟨_, rfl⟩
  rw [← eH] at hP
  have hS : va_S A s.heap H [] := by rw [eH]; exact hS
  rw [← eH]
  generalize ([] : List Loc) = locs at hS ⊢
  have hl := lv_entry ([.int iop]) (n := 1) (Nat.le_of_ble_eq_true rfl)
  rw [lg_entry_eq]
  generalize (lg_sl ([.int iop]) ++ List.replicate (1 - (lg_sl ([.int iop])).length) Slot.unset).toArray = ls at hl ⊢
  have hl : lv_has ls 1 [(0, .int iop)] := hl
  refine lv_iload_n hx hb d_O_isSum_0 rfl (lv_at hl 0 rfl) ?_
  refine lv_if_eq (tgt := 11) hx hb d_O_isSum_1 (by decide) (fun c_1 => ?_) (fun c_1 => ?_)
  · skip
    refine lv_iconst (v := 1) hx hb d_O_isSum_11 (by decide) ?_
    refine lv_goto (tgt := 16) hx hb d_O_isSum_12 (by decide) ?_
    have hE : g_O_isSum iop = (true) := by clear hP hD hl hS; unfold g_O_isSum; (try dsimp only); rw [if_pos c_1]
    have hP9 : va_P (dC, dI) classes [] H := by exact hP.sub [] rfl
    have hD9 : va_D A [] := by exact hD.sub [] (by decide) rfl
    exact W.zret (v := 1) hx hb hr (by first | exact nar_b2i _ | rfl) (fun t ht hW => ⟨⟨1, (), rfl, by rw [hE]; rfl, by rw [ht]; exact hP9, hD9⟩, hS.F ht⟩) hS.2.2 d_O_isSum_16
  · skip
    refine lv_iload_n hx hb d_O_isSum_4 rfl (lv_at hl 0 rfl) ?_
    have hPc := hP.sub (ws' := []) [] rfl
    have hDc := hD.sub (ws' := []) [] (by decide) rfl
    have hKc := hK.sub (tys' := []) [] rfl
    have hFc := va_free (wc := []) hD hS hA [] rfl
    refine cc_i (va_runS (As := [.int iop]) (rest := []) ⟨hx, hb, hml, hown, htA⟩ (c_O_isDifference l dC dI H.size iop) (va_cwS 1 htA (gi_S k_91 k_92 k_90 (gi_code k_89)) rfl rfl rfl (by decide +kernel) ⟨Nat.le_of_ble_eq_true rfl, Nat.le_of_ble_eq_true rfl⟩) (pre_S hnw hPc hKc hDc) rfl rfl hl.1 rfl (lv_room (Nat.le_of_ble_eq_true rfl)) d_O_isSum_5 ⟨Nat.le_of_ble_eq_true rfl, Nat.le_of_ble_eq_true rfl⟩) hS hFc hP hD [] [] (wr := []) rfl rfl (by decide) (by decide) (fun H locs hP hD hS => ?_)
    have hP : va_P (dC, dI) classes [] H := hP
    have hD : va_D A [] := hD
    refine lv_if_eq (tgt := 15) hx hb d_O_isSum_8 (by decide) (fun c_8 => ?_) (fun c_8 => ?_)
    · skip
      have c_8 : ¬ (g_O_isDifference iop) = true := b2i_z c_8
      refine lv_iconst (v := 0) hx hb d_O_isSum_15 (by decide) ?_
      have hE : g_O_isSum iop = (false) := by clear hP hD hl hS; unfold g_O_isSum; (try dsimp only); rw [if_neg c_1, if_neg c_8]
      have hP9 : va_P (dC, dI) classes [] H := by exact hP.sub [] rfl
      have hD9 : va_D A [] := by exact hD.sub [] (by decide) rfl
      exact W.zret (v := 0) hx hb hr (by first | exact nar_b2i _ | rfl) (fun t ht hW => ⟨⟨0, (), rfl, by rw [hE]; rfl, by rw [ht]; exact hP9, hD9⟩, hS.F ht⟩) hS.2.2 d_O_isSum_16
    · skip
      have c_8 : (g_O_isDifference iop) = true := b2i_nz c_8
      refine lv_iconst (v := 1) hx hb d_O_isSum_11 (by decide) ?_
      refine lv_goto (tgt := 16) hx hb d_O_isSum_12 (by decide) ?_
      have hE : g_O_isSum iop = (true) := by clear hP hD hl hS; unfold g_O_isSum; (try dsimp only); rw [if_neg c_1, if_pos c_8]
      have hP9 : va_P (dC, dI) classes [] H := by exact hP.sub [] rfl
      have hD9 : va_D A [] := by exact hD.sub [] (by decide) rfl
      exact W.zret (v := 1) hx hb hr (by first | exact nar_b2i _ | rfl) (fun t ht hW => ⟨⟨1, (), rfl, by rw [hE]; rfl, by rw [ht]; exact hP9, hD9⟩, hS.F ht⟩) hS.2.2 d_O_isSum_16
theorem d_O_isQuotient_0 : decode b_O_isQuotient 0 = .ok (.iload_n 0, 1) := by decide +kernel
theorem d_O_isQuotient_1 : decode b_O_isQuotient 1 = .ok (.iconst 4, 1) := by decide +kernel
theorem d_O_isQuotient_2 : decode b_O_isQuotient 2 = .ok (.if_icmp .eq 8, 3) := by decide +kernel
theorem d_O_isQuotient_10 : decode b_O_isQuotient 10 = .ok (.iconst 1, 1) := by decide +kernel
theorem d_O_isQuotient_11 : decode b_O_isQuotient 11 = .ok (.goto 4, 3) := by decide +kernel
theorem d_O_isQuotient_15 : decode b_O_isQuotient 15 = .ok (.ireturn, 1) := by decide +kernel
theorem d_O_isQuotient_5 : decode b_O_isQuotient 5 = .ok (.iload_n 0, 1) := by decide +kernel
theorem d_O_isQuotient_6 : decode b_O_isQuotient 6 = .ok (.iconst 5, 1) := by decide +kernel
theorem d_O_isQuotient_7 : decode b_O_isQuotient 7 = .ok (.if_icmp .ne 7, 3) := by decide +kernel
theorem d_O_isQuotient_14 : decode b_O_isQuotient 14 = .ok (.iconst 0, 1) := by decide +kernel
set_option maxHeartbeats 4000000 in
set_option maxRecDepth 100000 in
theorem c_O_isQuotient (l : Launch) (dC : Nat → ClassId) (dI : Nat → Nat → Nat) (sz : Nat) (iop : Int32) : Met l y_O_isQuotient w_O_isQuotient ({ frames := 0, cells := 0, slots := 0, locals := 0 }) (cPc (dC, dI) [] [.int iop] [] sz) (va_Qi (fun (r : Int32) (_ : Unit) => r = b2i ((g_O_isQuotient iop))) (fun _ t => va_P (dC, dI) classes [] t.heap ∧ va_D (va_A [] sz) []) (va_A [] sz)) 0 0 (va_A [] sz) := by
  refine Met.ofW (cc := b_O_isQuotient) (maxL := 1) (ret := (some .boolean)) (by decide) rfl ?_
  intro p e s m args below meth c s₁ B hml hv
  obtain ⟨rfl, hsz, hP, hK, hD0, hnw⟩ := hv
  have hx := B.exec
  have hb := B.bytes
  have hr := B.returns
  have hts := atoms_spec (ws := w_O_isQuotient) B.pre
  have htA : ∀ w ∈ wAll, w.before _ s = true := fun w h => hts w (List.mem_cons_of_mem _ h)
  have hown : s.vm.findClass R_O = some m.cls := findClass_of_methodNamed B.named
  have hlocks := B.notSynchronized
  subst hsz
  have hD := hD0.self (sz := s.heap.size)
  generalize hAe : va_A [] s.heap.size = A at hD ⊢
  have hA : ∀ q : Nat, s.heap.size ≤ q → A q := fun q h => by rw [← hAe]; exact Or.inr h
  have hS : va_S A s.heap s.heap [] := va_S.rf
  have hP : va_P (dC, dI) classes [] s.heap := hP
  obtain ⟨H, eH⟩ : ∃ z, z = s.heap := ⟨_, rfl⟩
  rw [← eH] at hP
  have hS : va_S A s.heap H [] := by rw [eH]; exact hS
  rw [← eH]
  generalize ([] : List Loc) = locs at hS ⊢
  have hl := lv_entry ([.int iop]) (n := 1) (Nat.le_of_ble_eq_true rfl)
  rw [lg_entry_eq]
  generalize (lg_sl ([.int iop]) ++ List.replicate (1 - (lg_sl ([.int iop])).length) Slot.unset).toArray = ls at hl ⊢
  have hl : lv_has ls 1 [(0, .int iop)] := hl
  refine lv_iload_n hx hb d_O_isQuotient_0 rfl (lv_at hl 0 rfl) ?_
  refine lv_iconst (v := 4) hx hb d_O_isQuotient_1 (by decide) ?_
  refine lv_icmp_eq (tgt := 10) hx hb d_O_isQuotient_2 (by decide) (fun c_2 => ?_) (fun c_2 => ?_)
  · skip
    refine lv_iconst (v := 1) hx hb d_O_isQuotient_10 (by decide) ?_
    refine lv_goto (tgt := 15) hx hb d_O_isQuotient_11 (by decide) ?_
    have hE : g_O_isQuotient iop = (true) := by clear hP hD hl hS; unfold g_O_isQuotient; (try dsimp only); rw [if_pos c_2]
    have hP9 : va_P (dC, dI) classes [] H := by exact hP.sub [] rfl
    have hD9 : va_D A [] := by exact hD.sub [] (by decide) rfl
    exact W.zret (v := 1) hx hb hr (by first | exact nar_b2i _ | rfl) (fun t ht hW => ⟨⟨1, (), rfl, by rw [hE]; rfl, by rw [ht]; exact hP9, hD9⟩, hS.F ht⟩) hS.2.2 d_O_isQuotient_15
  · skip
    refine lv_iload_n hx hb d_O_isQuotient_5 rfl (lv_at hl 0 rfl) ?_
    refine lv_iconst (v := 5) hx hb d_O_isQuotient_6 (by decide) ?_
    refine lv_icmp_ne (tgt := 14) hx hb d_O_isQuotient_7 (by decide) (fun c_7 => ?_) (fun c_7 => ?_)
    · skip
      refine lv_iconst (v := 0) hx hb d_O_isQuotient_14 (by decide) ?_
      have hE : g_O_isQuotient iop = (false) := by clear hP hD hl hS; unfold g_O_isQuotient; (try dsimp only); rw [if_neg c_2, if_neg c_7]
      have hP9 : va_P (dC, dI) classes [] H := by exact hP.sub [] rfl
      have hD9 : va_D A [] := by exact hD.sub [] (by decide) rfl
      exact W.zret (v := 0) hx hb hr (by first | exact nar_b2i _ | rfl) (fun t ht hW => ⟨⟨0, (), rfl, by rw [hE]; rfl, by rw [ht]; exact hP9, hD9⟩, hS.F ht⟩) hS.2.2 d_O_isQuotient_15
    · skip
      refine lv_iconst (v := 1) hx hb d_O_isQuotient_10 (by decide) ?_
      refine lv_goto (tgt := 15) hx hb d_O_isQuotient_11 (by decide) ?_
      have hE : g_O_isQuotient iop = (true) := by clear hP hD hl hS; unfold g_O_isQuotient; (try dsimp only); rw [if_neg c_2, if_pos c_7]
      have hP9 : va_P (dC, dI) classes [] H := by exact hP.sub [] rfl
      have hD9 : va_D A [] := by exact hD.sub [] (by decide) rfl
      exact W.zret (v := 1) hx hb hr (by first | exact nar_b2i _ | rfl) (fun t ht hW => ⟨⟨1, (), rfl, by rw [hE]; rfl, by rw [ht]; exact hP9, hD9⟩, hS.F ht⟩) hS.2.2 d_O_isQuotient_15
theorem d_O_isMasked_0 : decode b_O_isMasked 0 = .ok (.aload_n 0, 1) := by decide +kernel
theorem d_O_isMasked_1 : decode b_O_isMasked 1 = .ok (.getfield 17, 3) := by decide +kernel
theorem d_O_isMasked_4 : decode b_O_isMasked 4 = .ok (.iload_n 1, 1) := by decide +kernel
theorem d_O_isMasked_5 : decode b_O_isMasked 5 = .ok (.iand, 1) := by decide +kernel
theorem d_O_isMasked_6 : decode b_O_isMasked 6 = .ok (.ifCond .eq 7, 3) := by decide +kernel
theorem d_O_isMasked_13 : decode b_O_isMasked 13 = .ok (.iconst 0, 1) := by decide +kernel
theorem d_O_isMasked_14 : decode b_O_isMasked 14 = .ok (.ireturn, 1) := by decide +kernel
theorem d_O_isMasked_9 : decode b_O_isMasked 9 = .ok (.iconst 1, 1) := by decide +kernel
theorem d_O_isMasked_10 : decode b_O_isMasked 10 = .ok (.goto 4, 3) := by decide +kernel
set_option maxHeartbeats 4000000 in
set_option maxRecDepth 100000 in
theorem c_O_isMasked (l : Launch) (dC : Nat → ClassId) (dI : Nat → Nat → Nat) (aO : Nat) (aT : Nat) (aF : Nat) (a1 : Nat) (a2 : Nat) (a3 : Nat) (a4 : Nat) (a5 : Nat) (sz : Nat) (cw : Int32) (ts : Int32) (iv : Int32) : Met l y_O_isMasked w_O_isMasked ({ frames := 0, cells := 0, slots := 0, locals := 0 }) (cPc (dC, dI) [] [.ref aO, .int iv] [(aO, .inr (0, [.ref aT, .ref aF, .int cw, .int ts, .ref a1, .ref a2, .ref a3, .ref a4, .ref a5]))] sz) (va_Qi (fun (r : Int32) (_ : Unit) => r = b2i ((g_O_isMasked cw iv))) (fun _ t => va_P (dC, dI) classes [(aO, .inr (0, [.ref aT, .ref aF, .int cw, .int ts, .ref a1, .ref a2, .ref a3, .ref a4, .ref a5]))] t.heap ∧ va_D (va_A [(aO, .inr (0, [.ref aT, .ref aF, .int cw, .int ts, .ref a1, .ref a2, .ref a3, .ref a4, .ref a5]))] sz) [(aO, .inr (0, [.ref aT, .ref aF, .int cw, .int ts, .ref a1, .ref a2, .ref a3, .ref a4, .ref a5]))]) (va_A [(aO, .inr (0, [.ref aT, .ref aF, .int cw, .int ts, .ref a1, .ref a2, .ref a3, .ref a4, .ref a5]))] sz)) 0 0 (va_A [(aO, .inr (0, [.ref aT, .ref aF, .int cw, .int ts, .ref a1, .ref a2, .ref a3, .ref a4, .ref a5]))] sz) := by
  refine Met.ofW (cc := b_O_isMasked) (maxL := 2) (ret := (some .boolean)) (by decide) rfl ?_
  intro p e s m args below meth c s₁ B hml hv
  obtain ⟨rfl, hsz, hP, hK, hD0, hnw⟩ := hv
  have hx := B.exec
  have hb := B.bytes
  have hr := B.returns
  have hts := atoms_spec (ws := w_O_isMasked) B.pre
  have htA : ∀ w ∈ wAll, w.before _ s = true := fun w h => hts w (List.mem_cons_of_mem _ h)
  have hown : s.vm.findClass R_O = some m.cls := findClass_of_methodNamed B.named
  have hlocks := B.notSynchronized
  subst hsz
  have hD := hD0.self (sz := s.heap.size)
  generalize hAe : va_A [(aO, .inr (0, [.ref aT, .ref aF, .int cw, .int ts, .ref a1, .ref a2, .ref a3, .ref a4, .ref a5]))] s.heap.size = A at hD ⊢
  have hA : ∀ q : Nat, s.heap.size ≤ q → A q := fun q h => by rw [← hAe]; exact Or.inr h
  have hS : va_S A s.heap s.heap [] := va_S.rf
  have hP : va_P (dC, dI) classes [(aO, .inr (0, [.ref aT, .ref aF, .int cw, .int ts, .ref a1, .ref a2, .ref a3, .ref a4, .ref a5]))] s.heap := hP
  obtain ⟨H, eH⟩ : ∃ z, z = s.heap := ⟨_, rfl⟩
  rw [← eH] at hP
  have hS : va_S A s.heap H [] := by rw [eH]; exact hS
  rw [← eH]
  generalize ([] : List Loc) = locs at hS ⊢
  have hl := lv_entry ([.ref aO, .int iv]) (n := 2) (Nat.le_of_ble_eq_true rfl)
  rw [lg_entry_eq]
  generalize (lg_sl ([.ref aO, .int iv]) ++ List.replicate (2 - (lg_sl ([.ref aO, .int iv])).length) Slot.unset).toArray = ls at hl ⊢
  have hl : lv_has ls 2 [(0, .ref aO), (1, .int iv)] := hl
  refine lv_aload_n hx hb d_O_isMasked_0 rfl (lv_at hl 0 rfl) ?_
  refine va_get (D := (dC, dI)) (ci := 0) (v := .int cw) (C := R_O) (T := F_O) (N := 9) hx hb htA in_O hown hK hP 0 rfl rfl 2 (by decide) (htA _ k_95) (fun _ h9 => h9) rfl d_O_isMasked_1 ?_
  refine lv_iload_n hx hb d_O_isMasked_4 rfl (lv_at hl 1 rfl) ?_
  refine lv_iand hx hb d_O_isMasked_5 ?_
  refine lv_if_eq (tgt := 13) hx hb d_O_isMasked_6 (by decide) (fun c_6 => ?_) (fun c_6 => ?_)
  · skip
    refine lv_iconst (v := 0) hx hb d_O_isMasked_13 (by decide) ?_
    have hE : g_O_isMasked cw iv = (false) := by clear hP hD hl hS; unfold g_O_isMasked; (try dsimp only); rw [if_pos c_6]
    have hP9 : va_P (dC, dI) classes [(aO, .inr (0, [.ref aT, .ref aF, .int cw, .int ts, .ref a1, .ref a2, .ref a3, .ref a4, .ref a5]))] H := by exact hP.sub [0] rfl
    have hD9 : va_D A [(aO, .inr (0, [.ref aT, .ref aF, .int cw, .int ts, .ref a1, .ref a2, .ref a3, .ref a4, .ref a5]))] := by exact hD.sub [0] (by decide) rfl
    exact W.zret (v := 0) hx hb hr (by first | exact nar_b2i _ | rfl) (fun t ht hW => ⟨⟨0, (), rfl, by rw [hE]; rfl, by rw [ht]; exact hP9, hD9⟩, hS.F ht⟩) hS.2.2 d_O_isMasked_14
  · skip
    refine lv_iconst (v := 1) hx hb d_O_isMasked_9 (by decide) ?_
    refine lv_goto (tgt := 14) hx hb d_O_isMasked_10 (by decide) ?_
    have hE : g_O_isMasked cw iv = (true) := by clear hP hD hl hS; unfold g_O_isMasked; (try dsimp only); rw [if_neg c_6]
    have hP9 : va_P (dC, dI) classes [(aO, .inr (0, [.ref aT, .ref aF, .int cw, .int ts, .ref a1, .ref a2, .ref a3, .ref a4, .ref a5]))] H := by exact hP.sub [0] rfl
    have hD9 : va_D A [(aO, .inr (0, [.ref aT, .ref aF, .int cw, .int ts, .ref a1, .ref a2, .ref a3, .ref a4, .ref a5]))] := by exact hD.sub [0] (by decide) rfl
    exact W.zret (v := 1) hx hb hr (by first | exact nar_b2i _ | rfl) (fun t ht hW => ⟨⟨1, (), rfl, by rw [hE]; rfl, by rw [ht]; exact hP9, hD9⟩, hS.F ht⟩) hS.2.2 d_O_isMasked_14
theorem d_O_isStopped_0 : decode b_O_isStopped 0 = .ok (.iload_n 1, 1) := by decide +kernel
theorem d_O_isStopped_1 : decode b_O_isStopped 1 = .ok (.bipush 7, 2) := by decide +kernel
theorem d_O_isStopped_3 : decode b_O_isStopped 3 = .ok (.iand, 1) := by decide +kernel
theorem d_O_isStopped_4 : decode b_O_isStopped 4 = .ok (.aload_n 0, 1) := by decide +kernel
theorem d_O_isStopped_5 : decode b_O_isStopped 5 = .ok (.getfield 17, 3) := by decide +kernel
theorem d_O_isStopped_8 : decode b_O_isStopped 8 = .ok (.iconst (-1), 1) := by decide +kernel
theorem d_O_isStopped_9 : decode b_O_isStopped 9 = .ok (.ixor, 1) := by decide +kernel
theorem d_O_isStopped_10 : decode b_O_isStopped 10 = .ok (.iand, 1) := by decide +kernel
theorem d_O_isStopped_11 : decode b_O_isStopped 11 = .ok (.ifCond .eq 7, 3) := by decide +kernel
theorem d_O_isStopped_18 : decode b_O_isStopped 18 = .ok (.iconst 0, 1) := by decide +kernel
theorem d_O_isStopped_19 : decode b_O_isStopped 19 = .ok (.ireturn, 1) := by decide +kernel
theorem d_O_isStopped_14 : decode b_O_isStopped 14 = .ok (.iconst 1, 1) := by decide +kernel
theorem d_O_isStopped_15 : decode b_O_isStopped 15 = .ok (.goto 4, 3) := by decide +kernel
set_option maxHeartbeats 4000000 in
set_option maxRecDepth 100000 in
theorem c_O_isStopped (l : Launch) (dC : Nat → ClassId) (dI : Nat → Nat → Nat) (aO : Nat) (aT : Nat) (aF : Nat) (a1 : Nat) (a2 : Nat) (a3 : Nat) (a4 : Nat) (a5 : Nat) (sz : Nat) (cw : Int32) (ts : Int32) (iv : Int32) : Met l y_O_isStopped w_O_isStopped ({ frames := 0, cells := 0, slots := 0, locals := 0 }) (cPc (dC, dI) [] [.ref aO, .int iv] [(aO, .inr (0, [.ref aT, .ref aF, .int cw, .int ts, .ref a1, .ref a2, .ref a3, .ref a4, .ref a5]))] sz) (va_Qi (fun (r : Int32) (_ : Unit) => r = b2i ((g_O_isStopped cw iv))) (fun _ t => va_P (dC, dI) classes [(aO, .inr (0, [.ref aT, .ref aF, .int cw, .int ts, .ref a1, .ref a2, .ref a3, .ref a4, .ref a5]))] t.heap ∧ va_D (va_A [(aO, .inr (0, [.ref aT, .ref aF, .int cw, .int ts, .ref a1, .ref a2, .ref a3, .ref a4, .ref a5]))] sz) [(aO, .inr (0, [.ref aT, .ref aF, .int cw, .int ts, .ref a1, .ref a2, .ref a3, .ref a4, .ref a5]))]) (va_A [(aO, .inr (0, [.ref aT, .ref aF, .int cw, .int ts, .ref a1, .ref a2, .ref a3, .ref a4, .ref a5]))] sz)) 0 0 (va_A [(aO, .inr (0, [.ref aT, .ref aF, .int cw, .int ts, .ref a1, .ref a2, .ref a3, .ref a4, .ref a5]))] sz) := by
  refine Met.ofW (cc := b_O_isStopped) (maxL := 2) (ret := (some .boolean)) (by decide) rfl ?_
  intro p e s m args below meth c s₁ B hml hv
  obtain ⟨rfl, hsz, hP, hK, hD0, hnw⟩ := hv
  have hx := B.exec
  have hb := B.bytes
  have hr := B.returns
  have hts := atoms_spec (ws := w_O_isStopped) B.pre
  have htA : ∀ w ∈ wAll, w.before _ s = true := fun w h => hts w (List.mem_cons_of_mem _ h)
  have hown : s.vm.findClass R_O = some m.cls := findClass_of_methodNamed B.named
  have hlocks := B.notSynchronized
  subst hsz
  have hD := hD0.self (sz := s.heap.size)
  generalize hAe : va_A [(aO, .inr (0, [.ref aT, .ref aF, .int cw, .int ts, .ref a1, .ref a2, .ref a3, .ref a4, .ref a5]))] s.heap.size = A at hD ⊢
  have hA : ∀ q : Nat, s.heap.size ≤ q → A q := fun q h => by rw [← hAe]; exact Or.inr h
  have hS : va_S A s.heap s.heap [] := va_S.rf
  have hP : va_P (dC, dI) classes [(aO, .inr (0, [.ref aT, .ref aF, .int cw, .int ts, .ref a1, .ref a2, .ref a3, .ref a4, .ref a5]))] s.heap := hP
  obtain ⟨H, eH⟩ : ∃ z, z = s.heap := ⟨_, rfl⟩
  rw [← eH] at hP
  have hS : va_S A s.heap H [] := by rw [eH]; exact hS
  rw [← eH]
  generalize ([] : List Loc) = locs at hS ⊢
  have hl := lv_entry ([.ref aO, .int iv]) (n := 2) (Nat.le_of_ble_eq_true rfl)
  rw [lg_entry_eq]
  generalize (lg_sl ([.ref aO, .int iv]) ++ List.replicate (2 - (lg_sl ([.ref aO, .int iv])).length) Slot.unset).toArray = ls at hl ⊢
  have hl : lv_has ls 2 [(0, .ref aO), (1, .int iv)] := hl
  refine lv_iload_n hx hb d_O_isStopped_0 rfl (lv_at hl 1 rfl) ?_
  refine lv_bipush (v := 7) hx hb d_O_isStopped_1 (by decide) ?_
  refine lv_iand hx hb d_O_isStopped_3 ?_
  refine lv_aload_n hx hb d_O_isStopped_4 rfl (lv_at hl 0 rfl) ?_
  refine va_get (D := (dC, dI)) (ci := 0) (v := .int cw) (C := R_O) (T := F_O) (N := 9) hx hb htA in_O hown hK hP 0 rfl rfl 2 (by decide) (htA _ k_95) (fun _ h9 => h9) rfl d_O_isStopped_5 ?_
  refine lv_iconst (v := (-1)) hx hb d_O_isStopped_8 (by decide) ?_
  refine lv_ixor hx hb d_O_isStopped_9 ?_
  refine lv_iand hx hb d_O_isStopped_10 ?_
  refine lv_if_eq (tgt := 18) hx hb d_O_isStopped_11 (by decide) (fun c_11 => ?_) (fun c_11 => ?_)
  · skip
    refine lv_iconst (v := 0) hx hb d_O_isStopped_18 (by decide) ?_
    have hE : g_O_isStopped cw iv = (false) := by clear hP hD hl hS; unfold g_O_isStopped; (try dsimp only); rw [if_pos c_11]
    have hP9 : va_P (dC, dI) classes [(aO, .inr (0, [.ref aT, .ref aF, .int cw, .int ts, .ref a1, .ref a2, .ref a3, .ref a4, .ref a5]))] H := by exact hP.sub [0] rfl
    have hD9 : va_D A [(aO, .inr (0, [.ref aT, .ref aF, .int cw, .int ts, .ref a1, .ref a2, .ref a3, .ref a4, .ref a5]))] := by exact hD.sub [0] (by decide) rfl
    exact W.zret (v := 0) hx hb hr (by first | exact nar_b2i _ | rfl) (fun t ht hW => ⟨⟨0, (), rfl, by rw [hE]; rfl, by rw [ht]; exact hP9, hD9⟩, hS.F ht⟩) hS.2.2 d_O_isStopped_19
  · skip
    refine lv_iconst (v := 1) hx hb d_O_isStopped_14 (by decide) ?_
    refine lv_goto (tgt := 19) hx hb d_O_isStopped_15 (by decide) ?_
    have hE : g_O_isStopped cw iv = (true) := by clear hP hD hl hS; unfold g_O_isStopped; (try dsimp only); rw [if_neg c_11]
    have hP9 : va_P (dC, dI) classes [(aO, .inr (0, [.ref aT, .ref aF, .int cw, .int ts, .ref a1, .ref a2, .ref a3, .ref a4, .ref a5]))] H := by exact hP.sub [0] rfl
    have hD9 : va_D A [(aO, .inr (0, [.ref aT, .ref aF, .int cw, .int ts, .ref a1, .ref a2, .ref a3, .ref a4, .ref a5]))] := by exact hD.sub [0] (by decide) rfl
    exact W.zret (v := 1) hx hb hr (by first | exact nar_b2i _ | rfl) (fun t ht hW => ⟨⟨1, (), rfl, by rw [hE]; rfl, by rw [ht]; exact hP9, hD9⟩, hS.F ht⟩) hS.2.2 d_O_isStopped_19
theorem d_O_digits_0 : decode b_O_digits 0 = .ok (.aload_n 0, 1) := by decide +kernel
theorem d_O_digits_1 : decode b_O_digits 1 = .ok (.getfield 17, 3) := by decide +kernel
theorem d_O_digits_4 : decode b_O_digits 4 = .ok (.bipush 8, 2) := by decide +kernel
theorem d_O_digits_6 : decode b_O_digits 6 = .ok (.ishr, 1) := by decide +kernel
theorem d_O_digits_7 : decode b_O_digits 7 = .ok (.iconst 3, 1) := by decide +kernel
theorem d_O_digits_8 : decode b_O_digits 8 = .ok (.iand, 1) := by decide +kernel
theorem d_O_digits_9 : decode b_O_digits 9 = .ok (.lookupswitch 33 #[(0, 27), (2, 30)], 27) := by decide +kernel
theorem d_O_digits_36 : decode b_O_digits 36 = .ok (.bipush 24, 2) := by decide +kernel
theorem d_O_digits_38 : decode b_O_digits 38 = .ok (.ireturn, 1) := by decide +kernel
theorem d_O_digits_39 : decode b_O_digits 39 = .ok (.bipush 53, 2) := by decide +kernel
theorem d_O_digits_41 : decode b_O_digits 41 = .ok (.ireturn, 1) := by decide +kernel
theorem d_O_digits_42 : decode b_O_digits 42 = .ok (.bipush 64, 2) := by decide +kernel
theorem d_O_digits_44 : decode b_O_digits 44 = .ok (.ireturn, 1) := by decide +kernel
set_option maxHeartbeats 4000000 in
set_option maxRecDepth 100000 in
theorem c_O_digits (l : Launch) (dC : Nat → ClassId) (dI : Nat → Nat → Nat) (aO : Nat) (aT : Nat) (aF : Nat) (a1 : Nat) (a2 : Nat) (a3 : Nat) (a4 : Nat) (a5 : Nat) (sz : Nat) (cw : Int32) (ts : Int32) : Met l y_O_digits w_O_digits ({ frames := 0, cells := 0, slots := 0, locals := 0 }) (cPc (dC, dI) [] [.ref aO] [(aO, .inr (0, [.ref aT, .ref aF, .int cw, .int ts, .ref a1, .ref a2, .ref a3, .ref a4, .ref a5]))] sz) (va_Qi (fun (r : Int32) (_ : Unit) => r = (g_O_digits cw)) (fun _ t => va_P (dC, dI) classes [(aO, .inr (0, [.ref aT, .ref aF, .int cw, .int ts, .ref a1, .ref a2, .ref a3, .ref a4, .ref a5]))] t.heap ∧ va_D (va_A [(aO, .inr (0, [.ref aT, .ref aF, .int cw, .int ts, .ref a1, .ref a2, .ref a3, .ref a4, .ref a5]))] sz) [(aO, .inr (0, [.ref aT, .ref aF, .int cw, .int ts, .ref a1, .ref a2, .ref a3, .ref a4, .ref a5]))]) (va_A [(aO, .inr (0, [.ref aT, .ref aF, .int cw, .int ts, .ref a1, .ref a2, .ref a3, .ref a4, .ref a5]))] sz)) 0 0 (va_A [(aO, .inr (0, [.ref aT, .ref aF, .int cw, .int ts, .ref a1, .ref a2, .ref a3, .ref a4, .ref a5]))] sz) := by
  refine Met.ofW (cc := b_O_digits) (maxL := 1) (ret := (some .int)) (by decide) rfl ?_
  intro p e s m args below meth c s₁ B hml hv
  obtain ⟨rfl, hsz, hP, hK, hD0, hnw⟩ := hv
  have hx := B.exec
  have hb := B.bytes
  have hr := B.returns
  have hts := atoms_spec (ws := w_O_digits) B.pre
  have htA : ∀ w ∈ wAll, w.before _ s = true := fun w h => hts w (List.mem_cons_of_mem _ h)
  have hown : s.vm.findClass R_O = some m.cls := findClass_of_methodNamed B.named
  have hlocks := B.notSynchronized
  subst hsz
  have hD := hD0.self (sz := s.heap.size)
  generalize hAe : va_A [(aO, .inr (0, [.ref aT, .ref aF, .int cw, .int ts, .ref a1, .ref a2, .ref a3, .ref a4, .ref a5]))] s.heap.size = A at hD ⊢
  have hA : ∀ q : Nat, s.heap.size ≤ q → A q := fun q h => by rw [← hAe]; exact Or.inr h
  have hS : va_S A s.heap s.heap [] := va_S.rf
  have hP : va_P (dC, dI) classes [(aO, .inr (0, [.ref aT, .ref aF, .int cw, .int ts, .ref a1, .ref a2, .ref a3, .ref a4, .ref a5]))] s.heap := hP
  obtain ⟨H, eH⟩ : ∃ z, z = s.heap := ⟨_, rfl⟩
  rw [← eH] at hP
  have hS : va_S A s.heap H [] := by rw [eH]; exact hS
  rw [← eH]
  generalize ([] : List Loc) = locs at hS ⊢
  have hl := lv_entry ([.ref aO]) (n := 1) (Nat.le_of_ble_eq_true rfl)
  rw [lg_entry_eq]
  generalize (lg_sl ([.ref aO]) ++ List.replicate (1 - (lg_sl ([.ref aO])).length) Slot.unset).toArray = ls at hl ⊢
  have hl : lv_has ls 1 [(0, .ref aO)] := hl
  refine lv_aload_n hx hb d_O_digits_0 rfl (lv_at hl 0 rfl) ?_
  refine va_get (D := (dC, dI)) (ci := 0) (v := .int cw) (C := R_O) (T := F_O) (N := 9) hx hb htA in_O hown hK hP 0 rfl rfl 2 (by decide) (htA _ k_95) (fun _ h9 => h9) rfl d_O_digits_1 ?_
  refine lv_bipush (v := 8) hx hb d_O_digits_4 (by decide) ?_
  refine lv_ishr hx hb d_O_digits_6 ?_
  refine lv_iconst (v := 3) hx hb d_O_digits_7 (by decide) ?_
  refine lv_iand hx hb d_O_digits_8 ?_
  by_cases c_9_0 : ((cw >>> (8 &&& 31)) &&& 3) = 0
  · skip
    refine lv_lookup (off := 27) (tgt := 36) hx hb d_O_digits_9 (by decide) (by rw [c_9_0]; rfl) (by decide) ?_
    refine lv_bipush (v := 24) hx hb d_O_digits_36 (by decide) ?_
    have hE : g_O_digits cw = (24) := by clear hP hD hl hS; unfold g_O_digits; (try dsimp only); rw [if_pos c_9_0]
    have hP9 : va_P (dC, dI) classes [(aO, .inr (0, [.ref aT, .ref aF, .int cw, .int ts, .ref a1, .ref a2, .ref a3, .ref a4, .ref a5]))] H := by exact hP.sub [0] rfl
    have hD9 : va_D A [(aO, .inr (0, [.ref aT, .ref aF, .int cw, .int ts, .ref a1, .ref a2, .ref a3, .ref a4, .ref a5]))] := by exact hD.sub [0] (by decide) rfl
    exact W.iret (v := 24) hx hb hr (fun t ht hW => ⟨⟨24, (), rfl, by rw [hE], by rw [ht]; exact hP9, hD9⟩, hS.F ht⟩) hS.2.2 d_O_digits_38
  · skip
    by_cases c_9_1 : ((cw >>> (8 &&& 31)) &&& 3) = 2
    · skip
      refine lv_lookup (off := 30) (tgt := 39) hx hb d_O_digits_9 (by decide) (by rw [c_9_1]; rfl) (by decide) ?_
      refine lv_bipush (v := 53) hx hb d_O_digits_39 (by decide) ?_
      have hE : g_O_digits cw = (53) := by clear hP hD hl hS; unfold g_O_digits; (try dsimp only); rw [if_neg c_9_0, if_pos c_9_1]
      have hP9 : va_P (dC, dI) classes [(aO, .inr (0, [.ref aT, .ref aF, .int cw, .int ts, .ref a1, .ref a2, .ref a3, .ref a4, .ref a5]))] H := by exact hP.sub [0] rfl
      have hD9 : va_D A [(aO, .inr (0, [.ref aT, .ref aF, .int cw, .int ts, .ref a1, .ref a2, .ref a3, .ref a4, .ref a5]))] := by exact hD.sub [0] (by decide) rfl
      exact W.iret (v := 53) hx hb hr (fun t ht hW => ⟨⟨53, (), rfl, by rw [hE], by rw [ht]; exact hP9, hD9⟩, hS.F ht⟩) hS.2.2 d_O_digits_41
    · skip
      refine lv_lookup (off := 33) (tgt := 42) hx hb d_O_digits_9 (by decide) (by show Op.lookupswitch.offset [(0, 27), (2, 30)] 33 _ = _; rw [lv_osw (a := 0) c_9_0 rfl, lv_osw (a := 2) c_9_1 rfl]; rfl) (by decide) ?_
      refine lv_bipush (v := 64) hx hb d_O_digits_42 (by decide) ?_
      have hE : g_O_digits cw = (64) := by clear hP hD hl hS; unfold g_O_digits; (try dsimp only); rw [if_neg c_9_0, if_neg c_9_1]
      have hP9 : va_P (dC, dI) classes [(aO, .inr (0, [.ref aT, .ref aF, .int cw, .int ts, .ref a1, .ref a2, .ref a3, .ref a4, .ref a5]))] H := by exact hP.sub [0] rfl
      have hD9 : va_D A [(aO, .inr (0, [.ref aT, .ref aF, .int cw, .int ts, .ref a1, .ref a2, .ref a3, .ref a4, .ref a5]))] := by exact hD.sub [0] (by decide) rfl
      exact W.iret (v := 64) hx hb hr (fun t ht hW => ⟨⟨64, (), rfl, by rw [hE], by rw [ht]; exact hP9, hD9⟩, hS.F ht⟩) hS.2.2 d_O_digits_44
theorem d_O_rounding_0 : decode b_O_rounding 0 = .ok (.aload_n 0, 1) := by decide +kernel
theorem d_O_rounding_1 : decode b_O_rounding 1 = .ok (.getfield 17, 3) := by decide +kernel
theorem d_O_rounding_4 : decode b_O_rounding 4 = .ok (.bipush 10, 2) := by decide +kernel
theorem d_O_rounding_6 : decode b_O_rounding 6 = .ok (.ishr, 1) := by decide +kernel
theorem d_O_rounding_7 : decode b_O_rounding 7 = .ok (.iconst 3, 1) := by decide +kernel
theorem d_O_rounding_8 : decode b_O_rounding 8 = .ok (.iand, 1) := by decide +kernel
theorem d_O_rounding_9 : decode b_O_rounding 9 = .ok (.ireturn, 1) := by decide +kernel
set_option maxHeartbeats 4000000 in
set_option maxRecDepth 100000 in
theorem c_O_rounding (l : Launch) (dC : Nat → ClassId) (dI : Nat → Nat → Nat) (aO : Nat) (aT : Nat) (aF : Nat) (a1 : Nat) (a2 : Nat) (a3 : Nat) (a4 : Nat) (a5 : Nat) (sz : Nat) (cw : Int32) (ts : Int32) : Met l y_O_rounding w_O_rounding ({ frames := 0, cells := 0, slots := 0, locals := 0 }) (cPc (dC, dI) [] [.ref aO] [(aO, .inr (0, [.ref aT, .ref aF, .int cw, .int ts, .ref a1, .ref a2, .ref a3, .ref a4, .ref a5]))] sz) (va_Qi (fun (r : Int32) (_ : Unit) => r = (g_O_rounding cw)) (fun _ t => va_P (dC, dI) classes [(aO, .inr (0, [.ref aT, .ref aF, .int cw, .int ts, .ref a1, .ref a2, .ref a3, .ref a4, .ref a5]))] t.heap ∧ va_D (va_A [(aO, .inr (0, [.ref aT, .ref aF, .int cw, .int ts, .ref a1, .ref a2, .ref a3, .ref a4, .ref a5]))] sz) [(aO, .inr (0, [.ref aT, .ref aF, .int cw, .int ts, .ref a1, .ref a2, .ref a3, .ref a4, .ref a5]))]) (va_A [(aO, .inr (0, [.ref aT, .ref aF, .int cw, .int ts, .ref a1, .ref a2, .ref a3, .ref a4, .ref a5]))] sz)) 0 0 (va_A [(aO, .inr (0, [.ref aT, .ref aF, .int cw, .int ts, .ref a1, .ref a2, .ref a3, .ref a4, .ref a5]))] sz) := by
  refine Met.ofW (cc := b_O_rounding) (maxL := 1) (ret := (some .int)) (by decide) rfl ?_
  intro p e s m args below meth c s₁ B hml hv
  obtain ⟨rfl, hsz, hP, hK, hD0, hnw⟩ := hv
  have hx := B.exec
  have hb := B.bytes
  have hr := B.returns
  have hts := atoms_spec (ws := w_O_rounding) B.pre
  have htA : ∀ w ∈ wAll, w.before _ s = true := fun w h => hts w (List.mem_cons_of_mem _ h)
  have hown : s.vm.findClass R_O = some m.cls := findClass_of_methodNamed B.named
  have hlocks := B.notSynchronized
  subst hsz
  have hD := hD0.self (sz := s.heap.size)
  generalize hAe : va_A [(aO, .inr (0, [.ref aT, .ref aF, .int cw, .int ts, .ref a1, .ref a2, .ref a3, .ref a4, .ref a5]))] s.heap.size = A at hD ⊢
  have hA : ∀ q : Nat, s.heap.size ≤ q → A q := fun q h => by rw [← hAe]; exact Or.inr h
  have hS : va_S A s.heap s.heap [] := va_S.rf
  have hP : va_P (dC, dI) classes [(aO, .inr (0, [.ref aT, .ref aF, .int cw, .int ts, .ref a1, .ref a2, .ref a3, .ref a4, .ref a5]))] s.heap := hP
  obtain ⟨H, eH⟩ : ∃ z, z = s.heap := ⟨_, rfl⟩
  rw [← eH] at hP
  have hS : va_S A s.heap H [] := by rw [eH]; exact hS
  rw [← eH]
  generalize ([] : List Loc) = locs at hS ⊢
  have hl := lv_entry ([.ref aO]) (n := 1) (Nat.le_of_ble_eq_true rfl)
  rw [lg_entry_eq]
  generalize (lg_sl ([.ref aO]) ++ List.replicate (1 - (lg_sl ([.ref aO])).length) Slot.unset).toArray = ls at hl ⊢
  have hl : lv_has ls 1 [(0, .ref aO)] := hl
  refine lv_aload_n hx hb d_O_rounding_0 rfl (lv_at hl 0 rfl) ?_
  refine va_get (D := (dC, dI)) (ci := 0) (v := .int cw) (C := R_O) (T := F_O) (N := 9) hx hb htA in_O hown hK hP 0 rfl rfl 2 (by decide) (htA _ k_95) (fun _ h9 => h9) rfl d_O_rounding_1 ?_
  refine lv_bipush (v := 10) hx hb d_O_rounding_4 (by decide) ?_
  refine lv_ishr hx hb d_O_rounding_6 ?_
  refine lv_iconst (v := 3) hx hb d_O_rounding_7 (by decide) ?_
  refine lv_iand hx hb d_O_rounding_8 ?_
  have hE : g_O_rounding cw = (((cw >>> (10 &&& 31)) &&& 3)) := by clear hP hD hl hS; unfold g_O_rounding; rfl
  have hP9 : va_P (dC, dI) classes [(aO, .inr (0, [.ref aT, .ref aF, .int cw, .int ts, .ref a1, .ref a2, .ref a3, .ref a4, .ref a5]))] H := by exact hP.sub [0] rfl
  have hD9 : va_D A [(aO, .inr (0, [.ref aT, .ref aF, .int cw, .int ts, .ref a1, .ref a2, .ref a3, .ref a4, .ref a5]))] := by exact hD.sub [0] (by decide) rfl
  exact W.iret (v := ((cw >>> (10 &&& 31)) &&& 3)) hx hb hr (fun t ht hW => ⟨⟨((cw >>> (10 &&& 31)) &&& 3), (), rfl, by rw [hE], by rw [ht]; exact hP9, hD9⟩, hS.F ht⟩) hS.2.2 d_O_rounding_9
theorem d_O_hasTwoInfinites_0 : decode b_O_hasTwoInfinites 0 = .ok (.aload_n 0, 1) := by decide +kernel
theorem d_O_hasTwoInfinites_1 : decode b_O_hasTwoInfinites 1 = .ok (.getfield 17, 3) := by decide +kernel
theorem d_O_hasTwoInfinites_4 : decode b_O_hasTwoInfinites 4 = .ok (.sipush 4096, 3) := by decide +kernel
theorem d_O_hasTwoInfinites_7 : decode b_O_hasTwoInfinites 7 = .ok (.iand, 1) := by decide +kernel
theorem d_O_hasTwoInfinites_8 : decode b_O_hasTwoInfinites 8 = .ok (.ifCond .eq 7, 3) := by decide +kernel
theorem d_O_hasTwoInfinites_15 : decode b_O_hasTwoInfinites 15 = .ok (.iconst 0, 1) := by decide +kernel
theorem d_O_hasTwoInfinites_16 : decode b_O_hasTwoInfinites 16 = .ok (.ireturn, 1) := by decide +kernel
theorem d_O_hasTwoInfinites_11 : decode b_O_hasTwoInfinites 11 = .ok (.iconst 1, 1) := by decide +kernel
theorem d_O_hasTwoInfinites_12 : decode b_O_hasTwoInfinites 12 = .ok (.goto 4, 3) := by decide +kernel
set_option maxHeartbeats 4000000 in
set_option maxRecDepth 100000 in
theorem c_O_hasTwoInfinites (l : Launch) (dC : Nat → ClassId) (dI : Nat → Nat → Nat) (aO : Nat) (aT : Nat) (aF : Nat) (a1 : Nat) (a2 : Nat) (a3 : Nat) (a4 : Nat) (a5 : Nat) (sz : Nat) (cw : Int32) (ts : Int32) : Met l y_O_hasTwoInfinites w_O_hasTwoInfinites ({ frames := 0, cells := 0, slots := 0, locals := 0 }) (cPc (dC, dI) [] [.ref aO] [(aO, .inr (0, [.ref aT, .ref aF, .int cw, .int ts, .ref a1, .ref a2, .ref a3, .ref a4, .ref a5]))] sz) (va_Qi (fun (r : Int32) (_ : Unit) => r = b2i ((g_O_hasTwoInfinites cw))) (fun _ t => va_P (dC, dI) classes [(aO, .inr (0, [.ref aT, .ref aF, .int cw, .int ts, .ref a1, .ref a2, .ref a3, .ref a4, .ref a5]))] t.heap ∧ va_D (va_A [(aO, .inr (0, [.ref aT, .ref aF, .int cw, .int ts, .ref a1, .ref a2, .ref a3, .ref a4, .ref a5]))] sz) [(aO, .inr (0, [.ref aT, .ref aF, .int cw, .int ts, .ref a1, .ref a2, .ref a3, .ref a4, .ref a5]))]) (va_A [(aO, .inr (0, [.ref aT, .ref aF, .int cw, .int ts, .ref a1, .ref a2, .ref a3, .ref a4, .ref a5]))] sz)) 0 0 (va_A [(aO, .inr (0, [.ref aT, .ref aF, .int cw, .int ts, .ref a1, .ref a2, .ref a3, .ref a4, .ref a5]))] sz) := by
  refine Met.ofW (cc := b_O_hasTwoInfinites) (maxL := 1) (ret := (some .boolean)) (by decide) rfl ?_
  intro p e s m args below meth c s₁ B hml hv
  obtain ⟨rfl, hsz, hP, hK, hD0, hnw⟩ := hv
  have hx := B.exec
  have hb := B.bytes
  have hr := B.returns
  have hts := atoms_spec (ws := w_O_hasTwoInfinites) B.pre
  have htA : ∀ w ∈ wAll, w.before _ s = true := fun w h => hts w (List.mem_cons_of_mem _ h)
  have hown : s.vm.findClass R_O = some m.cls := findClass_of_methodNamed B.named
  have hlocks := B.notSynchronized
  subst hsz
  have hD := hD0.self (sz := s.heap.size)
  generalize hAe : va_A [(aO, .inr (0, [.ref aT, .ref aF, .int cw, .int ts, .ref a1, .ref a2, .ref a3, .ref a4, .ref a5]))] s.heap.size = A at hD ⊢
  have hA : ∀ q : Nat, s.heap.size ≤ q → A q := fun q h => by rw [← hAe]; exact Or.inr h
  have hS : va_S A s.heap s.heap [] := va_S.rf
  have hP : va_P (dC, dI) classes [(aO, .inr (0, [.ref aT, .ref aF, .int cw, .int ts, .ref a1, .ref a2, .ref a3, .ref a4, .ref a5]))] s.heap := hP
  obtain ⟨H, eH⟩ : ∃ z, z = s.heap := ⟨_, rfl⟩
  rw [← eH] at hP
  have hS : va_S A s.heap H [] := by rw [eH]; exact hS
  rw [← eH]
  generalize ([] : List Loc) = locs at hS ⊢
  have hl := lv_entry ([.ref aO]) (n := 1) (Nat.le_of_ble_eq_true rfl)
  rw [lg_entry_eq]
  generalize (lg_sl ([.ref aO]) ++ List.replicate (1 - (lg_sl ([.ref aO])).length) Slot.unset).toArray = ls at hl ⊢
  have hl : lv_has ls 1 [(0, .ref aO)] := hl
  refine lv_aload_n hx hb d_O_hasTwoInfinites_0 rfl (lv_at hl 0 rfl) ?_
  refine va_get (D := (dC, dI)) (ci := 0) (v := .int cw) (C := R_O) (T := F_O) (N := 9) hx hb htA in_O hown hK hP 0 rfl rfl 2 (by decide) (htA _ k_95) (fun _ h9 => h9) rfl d_O_hasTwoInfinites_1 ?_
  refine lv_sipush (v := 4096) hx hb d_O_hasTwoInfinites_4 (by decide) ?_
  refine lv_iand hx hb d_O_hasTwoInfinites_7 ?_
  refine lv_if_eq (tgt := 15) hx hb d_O_hasTwoInfinites_8 (by decide) (fun c_8 => ?_) (fun c_8 => ?_)
  · skip
    refine lv_iconst (v := 0) hx hb d_O_hasTwoInfinites_15 (by decide) ?_
    have hE : g_O_hasTwoInfinites cw = (false) := by clear hP hD hl hS; unfold g_O_hasTwoInfinites; (try dsimp only); rw [if_pos c_8]
    have hP9 : va_P (dC, dI) classes [(aO, .inr (0, [.ref aT, .ref aF, .int cw, .int ts, .ref a1, .ref a2, .ref a3, .ref a4, .ref a5]))] H := by exact hP.sub [0] rfl
    have hD9 : va_D A [(aO, .inr (0, [.ref aT, .ref aF, .int cw, .int ts, .ref a1, .ref a2, .ref a3, .ref a4, .ref a5]))] := by exact hD.sub [0] (by decide) rfl
    exact W.zret (v := 0) hx hb hr (by first | exact nar_b2i _ | rfl) (fun t ht hW => ⟨⟨0, (), rfl, by rw [hE]; rfl, by rw [ht]; exact hP9, hD9⟩, hS.F ht⟩) hS.2.2 d_O_hasTwoInfinites_16
  · skip
    refine lv_iconst (v := 1) hx hb d_O_hasTwoInfinites_11 (by decide) ?_
    refine lv_goto (tgt := 16) hx hb d_O_hasTwoInfinites_12 (by decide) ?_
    have hE : g_O_hasTwoInfinites cw = (true) := by clear hP hD hl hS; unfold g_O_hasTwoInfinites; (try dsimp only); rw [if_neg c_8]
    have hP9 : va_P (dC, dI) classes [(aO, .inr (0, [.ref aT, .ref aF, .int cw, .int ts, .ref a1, .ref a2, .ref a3, .ref a4, .ref a5]))] H := by exact hP.sub [0] rfl
    have hD9 : va_D A [(aO, .inr (0, [.ref aT, .ref aF, .int cw, .int ts, .ref a1, .ref a2, .ref a3, .ref a4, .ref a5]))] := by exact hD.sub [0] (by decide) rfl
    exact W.zret (v := 1) hx hb hr (by first | exact nar_b2i _ | rfl) (fun t ht hW => ⟨⟨1, (), rfl, by rw [hE]; rfl, by rw [ht]; exact hP9, hD9⟩, hS.F ht⟩) hS.2.2 d_O_hasTwoInfinites_16
theorem d_O_told_0 : decode b_O_told 0 = .ok (.aload_n 0, 1) := by decide +kernel
theorem d_O_told_1 : decode b_O_told 1 = .ok (.getfield 21, 3) := by decide +kernel
theorem d_O_told_4 : decode b_O_told 4 = .ok (.ireturn, 1) := by decide +kernel
set_option maxHeartbeats 4000000 in
set_option maxRecDepth 100000 in
theorem c_O_told (l : Launch) (dC : Nat → ClassId) (dI : Nat → Nat → Nat) (aO : Nat) (aT : Nat) (aF : Nat) (a1 : Nat) (a2 : Nat) (a3 : Nat) (a4 : Nat) (a5 : Nat) (sz : Nat) (cw : Int32) (ts : Int32) : Met l y_O_told w_O_told ({ frames := 0, cells := 0, slots := 0, locals := 0 }) (cPc (dC, dI) [] [.ref aO] [(aO, .inr (0, [.ref aT, .ref aF, .int cw, .int ts, .ref a1, .ref a2, .ref a3, .ref a4, .ref a5]))] sz) (va_Qi (fun (r : Int32) (_ : Unit) => r = (g_O_told ts)) (fun _ t => va_P (dC, dI) classes [(aO, .inr (0, [.ref aT, .ref aF, .int cw, .int ts, .ref a1, .ref a2, .ref a3, .ref a4, .ref a5]))] t.heap ∧ va_D (va_A [(aO, .inr (0, [.ref aT, .ref aF, .int cw, .int ts, .ref a1, .ref a2, .ref a3, .ref a4, .ref a5]))] sz) [(aO, .inr (0, [.ref aT, .ref aF, .int cw, .int ts, .ref a1, .ref a2, .ref a3, .ref a4, .ref a5]))]) (va_A [(aO, .inr (0, [.ref aT, .ref aF, .int cw, .int ts, .ref a1, .ref a2, .ref a3, .ref a4, .ref a5]))] sz)) 0 0 (va_A [(aO, .inr (0, [.ref aT, .ref aF, .int cw, .int ts, .ref a1, .ref a2, .ref a3, .ref a4, .ref a5]))] sz) := by
  refine Met.ofW (cc := b_O_told) (maxL := 1) (ret := (some .int)) (by decide) rfl ?_
  intro p e s m args below meth c s₁ B hml hv
  obtain ⟨rfl, hsz, hP, hK, hD0, hnw⟩ := hv
  have hx := B.exec
  have hb := B.bytes
  have hr := B.returns
  have hts := atoms_spec (ws := w_O_told) B.pre
  have htA : ∀ w ∈ wAll, w.before _ s = true := fun w h => hts w (List.mem_cons_of_mem _ h)
  have hown : s.vm.findClass R_O = some m.cls := findClass_of_methodNamed B.named
  have hlocks := B.notSynchronized
  subst hsz
  have hD := hD0.self (sz := s.heap.size)
  generalize hAe : va_A [(aO, .inr (0, [.ref aT, .ref aF, .int cw, .int ts, .ref a1, .ref a2, .ref a3, .ref a4, .ref a5]))] s.heap.size = A at hD ⊢
  have hA : ∀ q : Nat, s.heap.size ≤ q → A q := fun q h => by rw [← hAe]; exact Or.inr h
  have hS : va_S A s.heap s.heap [] := va_S.rf
  have hP : va_P (dC, dI) classes [(aO, .inr (0, [.ref aT, .ref aF, .int cw, .int ts, .ref a1, .ref a2, .ref a3, .ref a4, .ref a5]))] s.heap := hP
  obtain ⟨H, eH⟩ : ∃ z, z = s.heap := ⟨_, rfl⟩
  rw [← eH] at hP
  have hS : va_S A s.heap H [] := by rw [eH]; exact hS
  rw [← eH]
  generalize ([] : List Loc) = locs at hS ⊢
  have hl := lv_entry ([.ref aO]) (n := 1) (Nat.le_of_ble_eq_true rfl)
  rw [lg_entry_eq]
  generalize (lg_sl ([.ref aO]) ++ List.replicate (1 - (lg_sl ([.ref aO])).length) Slot.unset).toArray = ls at hl ⊢
  have hl : lv_has ls 1 [(0, .ref aO)] := hl
  refine lv_aload_n hx hb d_O_told_0 rfl (lv_at hl 0 rfl) ?_
  refine va_get (D := (dC, dI)) (ci := 0) (v := .int ts) (C := R_O) (T := F_O) (N := 9) hx hb htA in_O hown hK hP 0 rfl rfl 3 (by decide) (htA _ k_101) (fun _ h9 => h9) rfl d_O_told_1 ?_
  have hE : g_O_told ts = (ts) := by clear hP hD hl hS; unfold g_O_told; rfl
  have hP9 : va_P (dC, dI) classes [(aO, .inr (0, [.ref aT, .ref aF, .int cw, .int ts, .ref a1, .ref a2, .ref a3, .ref a4, .ref a5]))] H := by exact hP.sub [0] rfl
  have hD9 : va_D A [(aO, .inr (0, [.ref aT, .ref aF, .int cw, .int ts, .ref a1, .ref a2, .ref a3, .ref a4, .ref a5]))] := by exact hD.sub [0] (by decide) rfl
  exact W.iret (v := ts) hx hb hr (fun t ht hW => ⟨⟨ts, (), rfl, by rw [hE], by rw [ht]; exact hP9, hD9⟩, hS.F ht⟩) hS.2.2 d_O_told_4
theorem d_O_clear_0 : decode b_O_clear 0 = .ok (.aload_n 0, 1) := by decide +kernel
theorem d_O_clear_1 : decode b_O_clear 1 = .ok (.iconst 0, 1) := by decide +kernel
theorem d_O_clear_2 : decode b_O_clear 2 = .ok (.putfield 21, 3) := by decide +kernel
theorem d_O_clear_5 : decode b_O_clear 5 = .ok (.return_, 1) := by decide +kernel
set_option maxHeartbeats 4000000 in
set_option maxRecDepth 100000 in
theorem c_O_clear (l : Launch) (dC : Nat → ClassId) (dI : Nat → Nat → Nat) (aO : Nat) (aT : Nat) (aF : Nat) (a1 : Nat) (a2 : Nat) (a3 : Nat) (a4 : Nat) (a5 : Nat) (sz : Nat) (cw : Int32) (ts : Int32) : Met l y_O_clear w_O_clear ({ frames := 0, cells := 0, slots := 0, locals := 0 }) (cPc (dC, dI) [] [.ref aO] [(aO, .inr (0, [.ref aT, .ref aF, .int cw, .int ts, .ref a1, .ref a2, .ref a3, .ref a4, .ref a5]))] sz) (va_Qv (fun (_ : Unit) => True) (fun _ t => va_P (dC, dI) classes [(aO, .inr (0, [.ref aT, .ref aF, .int cw, .int 0, .ref a1, .ref a2, .ref a3, .ref a4, .ref a5]))] t.heap ∧ va_D (va_A [(aO, .inr (0, [.ref aT, .ref aF, .int cw, .int ts, .ref a1, .ref a2, .ref a3, .ref a4, .ref a5]))] sz) [(aO, .inr (0, [.ref aT, .ref aF, .int cw, .int 0, .ref a1, .ref a2, .ref a3, .ref a4, .ref a5]))]) (va_A [(aO, .inr (0, [.ref aT, .ref aF, .int cw, .int ts, .ref a1, .ref a2, .ref a3, .ref a4, .ref a5]))] sz)) 0 0 (va_A [(aO, .inr (0, [.ref aT, .ref aF, .int cw, .int ts, .ref a1, .ref a2, .ref a3, .ref a4, .ref a5]))] sz) := by
  refine Met.ofW (cc := b_O_clear) (maxL := 1) (ret := none) (by decide) rfl ?_
  intro p e s m args below meth c s₁ B hml hv
  obtain ⟨rfl, hsz, hP, hK, hD0, hnw⟩ := hv
  have hx := B.exec
  have hb := B.bytes
  have hr := B.returns
  have hts := atoms_spec (ws := w_O_clear) B.pre
  have htA : ∀ w ∈ wAll, w.before _ s = true := fun w h => hts w (List.mem_cons_of_mem _ h)
  have hown : s.vm.findClass R_O = some m.cls := findClass_of_methodNamed B.named
  have hlocks := B.notSynchronized
  subst hsz
  have hD := hD0.self (sz := s.heap.size)
  generalize hAe : va_A [(aO, .inr (0, [.ref aT, .ref aF, .int cw, .int ts, .ref a1, .ref a2, .ref a3, .ref a4, .ref a5]))] s.heap.size = A at hD ⊢
  have hA : ∀ q : Nat, s.heap.size ≤ q → A q := fun q h => by rw [← hAe]; exact Or.inr h
  have hS : va_S A s.heap s.heap [] := va_S.rf
  have hP : va_P (dC, dI) classes [(aO, .inr (0, [.ref aT, .ref aF, .int cw, .int ts, .ref a1, .ref a2, .ref a3, .ref a4, .ref a5]))] s.heap := hP
  obtain ⟨H, eH⟩ : ∃ z, z = s.heap := ⟨_, rfl⟩
  rw [← eH] at hP
  have hS : va_S A s.heap H [] := by rw [eH]; exact hS
  rw [← eH]
  generalize ([] : List Loc) = locs at hS ⊢
  have hl := lv_entry ([.ref aO]) (n := 1) (Nat.le_of_ble_eq_true rfl)
  rw [lg_entry_eq]
  generalize (lg_sl ([.ref aO]) ++ List.replicate (1 - (lg_sl ([.ref aO])).length) Slot.unset).toArray = ls at hl ⊢
  have hl : lv_has ls 1 [(0, .ref aO)] := hl
  refine lv_aload_n hx hb d_O_clear_0 rfl (lv_at hl 0 rfl) ?_
  refine lv_iconst (v := 0) hx hb d_O_clear_1 (by decide) ?_
  refine va_put (D := (dC, dI)) (ci := 0) (v := .int 0) (ty := .int) (C := R_O) (T := F_O) (N := 9) hx hb htA in_O t_O t_O_ok n_O hown hK hP hD hS 0 rfl rfl 3 (by decide) (htA _ k_101) (fun _ h9 => h9) rfl (by decide +kernel) rfl rfl (Nat.le_of_ble_eq_true rfl) d_O_clear_2 (fun H locs hP hD hS => ?_)
  have hP : va_P (dC, dI) classes [(aO, .inr (0, [.ref aT, .ref aF, .int cw, .int 0, .ref a1, .ref a2, .ref a3, .ref a4, .ref a5]))] H := hP
  have hD : va_D A [(aO, .inr (0, [.ref aT, .ref aF, .int cw, .int 0, .ref a1, .ref a2, .ref a3, .ref a4, .ref a5]))] := hD
  have hP9 : va_P (dC, dI) classes [(aO, .inr (0, [.ref aT, .ref aF, .int cw, .int 0, .ref a1, .ref a2, .ref a3, .ref a4, .ref a5]))] H := by exact hP.sub [0] rfl
  have hD9 : va_D A [(aO, .inr (0, [.ref aT, .ref aF, .int cw, .int 0, .ref a1, .ref a2, .ref a3, .ref a4, .ref a5]))] := by exact hD.sub [0] (by decide) rfl
  exact W.vret hx hb hr (fun t ht hW => ⟨⟨(), rfl, trivial, by rw [ht]; exact hP9, hD9⟩, hS.F ht⟩) hS.2.2 d_O_clear_5
theorem d_O_hasOppositeSigns_0 : decode b_O_hasOppositeSigns 0 = .ok (.aload_n 0, 1) := by decide +kernel
theorem d_O_hasOppositeSigns_1 : decode b_O_hasOppositeSigns 1 = .ok (.getfield 27, 3) := by decide +kernel
theorem d_O_hasOppositeSigns_4 : decode b_O_hasOppositeSigns 4 = .ok (.getfield 108, 3) := by decide +kernel
theorem d_O_hasOppositeSigns_7 : decode b_O_hasOppositeSigns 7 = .ok (.aload_n 0, 1) := by decide +kernel
theorem d_O_hasOppositeSigns_8 : decode b_O_hasOppositeSigns 8 = .ok (.getfield 31, 3) := by decide +kernel
theorem d_O_hasOppositeSigns_11 : decode b_O_hasOppositeSigns 11 = .ok (.getfield 108, 3) := by decide +kernel
theorem d_O_hasOppositeSigns_14 : decode b_O_hasOppositeSigns 14 = .ok (.if_icmp .eq 7, 3) := by decide +kernel
theorem d_O_hasOppositeSigns_21 : decode b_O_hasOppositeSigns 21 = .ok (.iconst 0, 1) := by decide +kernel
theorem d_O_hasOppositeSigns_22 : decode b_O_hasOppositeSigns 22 = .ok (.ireturn, 1) := by decide +kernel
theorem d_O_hasOppositeSigns_17 : decode b_O_hasOppositeSigns 17 = .ok (.iconst 1, 1) := by decide +kernel
theorem d_O_hasOppositeSigns_18 : decode b_O_hasOppositeSigns 18 = .ok (.goto 4, 3) := by decide +kernel
set_option maxHeartbeats 4000000 in
set_option maxRecDepth 100000 in
theorem c_O_hasOppositeSigns (l : Launch) (dC : Nat → ClassId) (dI : Nat → Nat → Nat) (aO : Nat) (a1 : Nat) (a2 : Nat) (aT : Nat) (aF : Nat) (a3 : Nat) (a4 : Nat) (a5 : Nat) (sz : Nat) (cw : Int32) (ts : Int32) (n1 : Bool) (p1 : Int32) (f1 : Int64) (n2 : Bool) (p2 : Int32) (f2 : Int64) : Met l y_O_hasOppositeSigns w_O_hasOppositeSigns ({ frames := 0, cells := 0, slots := 0, locals := 0 }) (cPc (dC, dI) [] [.ref aO] [(aO, .inr (0, [.ref aT, .ref aF, .int cw, .int ts, .ref a1, .ref a2, .ref a3, .ref a4, .ref a5])), (a1, .inr (1, [.int (b2i n1), .int p1, .long f1])), (a2, .inr (1, [.int (b2i n2), .int p2, .long f2]))] sz) (va_Qi (fun (r : Int32) (_ : Unit) => r = b2i ((g_O_hasOppositeSigns n1 n2))) (fun _ t => va_P (dC, dI) classes [(aO, .inr (0, [.ref aT, .ref aF, .int cw, .int ts, .ref a1, .ref a2, .ref a3, .ref a4, .ref a5])), (a1, .inr (1, [.int (b2i n1), .int p1, .long f1])), (a2, .inr (1, [.int (b2i n2), .int p2, .long f2]))] t.heap ∧ va_D (va_A [(aO, .inr (0, [.ref aT, .ref aF, .int cw, .int ts, .ref a1, .ref a2, .ref a3, .ref a4, .ref a5])), (a1, .inr (1, [.int (b2i n1), .int p1, .long f1])), (a2, .inr (1, [.int (b2i n2), .int p2, .long f2]))] sz) [(aO, .inr (0, [.ref aT, .ref aF, .int cw, .int ts, .ref a1, .ref a2, .ref a3, .ref a4, .ref a5])), (a1, .inr (1, [.int (b2i n1), .int p1, .long f1])), (a2, .inr (1, [.int (b2i n2), .int p2, .long f2]))]) (va_A [(aO, .inr (0, [.ref aT, .ref aF, .int cw, .int ts, .ref a1, .ref a2, .ref a3, .ref a4, .ref a5])), (a1, .inr (1, [.int (b2i n1), .int p1, .long f1])), (a2, .inr (1, [.int (b2i n2), .int p2, .long f2]))] sz)) 0 0 (va_A [(aO, .inr (0, [.ref aT, .ref aF, .int cw, .int ts, .ref a1, .ref a2, .ref a3, .ref a4, .ref a5])), (a1, .inr (1, [.int (b2i n1), .int p1, .long f1])), (a2, .inr (1, [.int (b2i n2), .int p2, .long f2]))] sz) := by
  refine Met.ofW (cc := b_O_hasOppositeSigns) (maxL := 1) (ret := (some .boolean)) (by decide) rfl ?_
  intro p e s m args below meth c s₁ B hml hv
  obtain ⟨rfl, hsz, hP, hK, hD0, hnw⟩ := hv
  have hx := B.exec
  have hb := B.bytes
  have hr := B.returns
  have hts := atoms_spec (ws := w_O_hasOppositeSigns) B.pre
  have htA : ∀ w ∈ wAll, w.before _ s = true := fun w h => hts w (List.mem_cons_of_mem _ h)
  have hown : s.vm.findClass R_O = some m.cls := findClass_of_methodNamed B.named
  have hlocks := B.notSynchronized
  subst hsz
  have hD := hD0.self (sz := s.heap.size)
  generalize hAe : va_A [(aO, .inr (0, [.ref aT, .ref aF, .int cw, .int ts, .ref a1, .ref a2, .ref a3, .ref a4, .ref a5])), (a1, .inr (1, [.int (b2i n1), .int p1, .long f1])), (a2, .inr (1, [.int (b2i n2), .int p2, .long f2]))] s.heap.size = A at hD ⊢
  have hA : ∀ q : Nat, s.heap.size ≤ q → A q := fun q h => by rw [← hAe]; exact Or.inr h
  have hS : va_S A s.heap s.heap [] := va_S.rf
  have hP : va_P (dC, dI) classes [(aO, .inr (0, [.ref aT, .ref aF, .int cw, .int ts, .ref a1, .ref a2, .ref a3, .ref a4, .ref a5])), (a1, .inr (1, [.int (b2i n1), .int p1, .long f1])), (a2, .inr (1, [.int (b2i n2), .int p2, .long f2]))] s.heap := hP
  obtain ⟨H, eH⟩ : ∃ z, z = s.heap := ⟨_, rfl⟩
  rw [← eH] at hP
  have hS : va_S A s.heap H [] := by rw [eH]; exact hS
  rw [← eH]
  generalize ([] : List Loc) = locs at hS ⊢
  have hl := lv_entry ([.ref aO]) (n := 1) (Nat.le_of_ble_eq_true rfl)
  rw [lg_entry_eq]
  generalize (lg_sl ([.ref aO]) ++ List.replicate (1 - (lg_sl ([.ref aO])).length) Slot.unset).toArray = ls at hl ⊢
  have hl : lv_has ls 1 [(0, .ref aO)] := hl
  refine lv_aload_n hx hb d_O_hasOppositeSigns_0 rfl (lv_at hl 0 rfl) ?_
  refine va_get (D := (dC, dI)) (ci := 0) (v := .ref a1) (C := R_O) (T := F_O) (N := 9) hx hb htA in_O hown hK hP 0 rfl rfl 4 (by decide) (htA _ k_104) (fun _ h9 => h9) rfl d_O_hasOppositeSigns_1 ?_
  refine va_getN (D := (dC, dI)) (ci := 1) (v := .int (b2i n1)) (C := R_R) (T := F_R) (N := 3) hx hb htA in_R hown hK hP 1 rfl rfl 0 (by decide) (va_Nw.use rfl (hnw _ n_5)) (fun _ h9 => h9) rfl d_O_hasOppositeSigns_4 ?_
  refine lv_aload_n hx hb d_O_hasOppositeSigns_7 rfl (lv_at hl 0 rfl) ?_
  refine va_get (D := (dC, dI)) (ci := 0) (v := .ref a2) (C := R_O) (T := F_O) (N := 9) hx hb htA in_O hown hK hP 0 rfl rfl 5 (by decide) (htA _ k_105) (fun _ h9 => h9) rfl d_O_hasOppositeSigns_8 ?_
  refine va_getN (D := (dC, dI)) (ci := 1) (v := .int (b2i n2)) (C := R_R) (T := F_R) (N := 3) hx hb htA in_R hown hK hP 2 rfl rfl 0 (by decide) (va_Nw.use rfl (hnw _ n_5)) (fun _ h9 => h9) rfl d_O_hasOppositeSigns_11 ?_
  refine lv_icmp_eq (tgt := 21) hx hb d_O_hasOppositeSigns_14 (by decide) (fun c_14 => ?_) (fun c_14 => ?_)
  · skip
    have c_14 : n1 = n2 := b2i_inj c_14
    refine lv_iconst (v := 0) hx hb d_O_hasOppositeSigns_21 (by decide) ?_
    have hE : g_O_hasOppositeSigns n1 n2 = (false) := by clear hP hD hl hS; unfold g_O_hasOppositeSigns; (try dsimp only); rw [if_pos c_14]
    have hP9 : va_P (dC, dI) classes [(aO, .inr (0, [.ref aT, .ref aF, .int cw, .int ts, .ref a1, .ref a2, .ref a3, .ref a4, .ref a5])), (a1, .inr (1, [.int (b2i n1), .int p1, .long f1])), (a2, .inr (1, [.int (b2i n2), .int p2, .long f2]))] H := by exact hP.sub [0, 1, 2] rfl
    have hD9 : va_D A [(aO, .inr (0, [.ref aT, .ref aF, .int cw, .int ts, .ref a1, .ref a2, .ref a3, .ref a4, .ref a5])), (a1, .inr (1, [.int (b2i n1), .int p1, .long f1])), (a2, .inr (1, [.int (b2i n2), .int p2, .long f2]))] := by exact hD.sub [0, 1, 2] (by decide) rfl
    exact W.zret (v := 0) hx hb hr (by first | exact nar_b2i _ | rfl) (fun t ht hW => ⟨⟨0, (), rfl, by rw [hE]; rfl, by rw [ht]; exact hP9, hD9⟩, hS.F ht⟩) hS.2.2 d_O_hasOppositeSigns_22
  · skip
    have c_14 : ¬ n1 = n2 := fun h9 => c_14 (by rw [h9])
    refine lv_iconst (v := 1) hx hb d_O_hasOppositeSigns_17 (by decide) ?_
    refine lv_goto (tgt := 22) hx hb d_O_hasOppositeSigns_18 (by decide) ?_
    have hE : g_O_hasOppositeSigns n1 n2 = (true) := by clear hP hD hl hS; unfold g_O_hasOppositeSigns; (try dsimp only); rw [if_neg c_14]
    have hP9 : va_P (dC, dI) classes [(aO, .inr (0, [.ref aT, .ref aF, .int cw, .int ts, .ref a1, .ref a2, .ref a3, .ref a4, .ref a5])), (a1, .inr (1, [.int (b2i n1), .int p1, .long f1])), (a2, .inr (1, [.int (b2i n2), .int p2, .long f2]))] H := by exact hP.sub [0, 1, 2] rfl
    have hD9 : va_D A [(aO, .inr (0, [.ref aT, .ref aF, .int cw, .int ts, .ref a1, .ref a2, .ref a3, .ref a4, .ref a5])), (a1, .inr (1, [.int (b2i n1), .int p1, .long f1])), (a2, .inr (1, [.int (b2i n2), .int p2, .long f2]))] := by exact hD.sub [0, 1, 2] (by decide) rfl
    exact W.zret (v := 1) hx hb hr (by first | exact nar_b2i _ | rfl) (fun t ht hW => ⟨⟨1, (), rfl, by rw [hE]; rfl, by rw [ht]; exact hP9, hD9⟩, hS.F ht⟩) hS.2.2 d_O_hasOppositeSigns_22
theorem d_O_isInvalidRoot_0 : decode b_O_isInvalidRoot 0 = .ok (.aload_n 0, 1) := by decide +kernel
theorem d_O_isInvalidRoot_1 : decode b_O_isInvalidRoot 1 = .ok (.getfield 27, 3) := by decide +kernel
theorem d_O_isInvalidRoot_4 : decode b_O_isInvalidRoot 4 = .ok (.getfield 108, 3) := by decide +kernel
theorem d_O_isInvalidRoot_7 : decode b_O_isInvalidRoot 7 = .ok (.ifCond .eq 13, 3) := by decide +kernel
theorem d_O_isInvalidRoot_20 : decode b_O_isInvalidRoot 20 = .ok (.aload_n 0, 1) := by decide +kernel
theorem d_O_isInvalidRoot_21 : decode b_O_isInvalidRoot 21 = .ok (.getfield 27, 3) := by decide +kernel
theorem d_O_isInvalidRoot_24 : decode b_O_isInvalidRoot 24 = .ok (.invokevirtual 167, 3) := by decide +kernel
theorem d_O_isInvalidRoot_27 : decode b_O_isInvalidRoot 27 = .ok (.ifCond .ne 20, 3) := by decide +kernel
theorem d_O_isInvalidRoot_47 : decode b_O_isInvalidRoot 47 = .ok (.iconst 1, 1) := by decide +kernel
theorem d_O_isInvalidRoot_48 : decode b_O_isInvalidRoot 48 = .ok (.goto 4, 3) := by decide +kernel
theorem d_O_isInvalidRoot_52 : decode b_O_isInvalidRoot 52 = .ok (.ireturn, 1) := by decide +kernel
theorem d_O_isInvalidRoot_30 : decode b_O_isInvalidRoot 30 = .ok (.aload_n 0, 1) := by decide +kernel
theorem d_O_isInvalidRoot_31 : decode b_O_isInvalidRoot 31 = .ok (.getfield 27, 3) := by decide +kernel
theorem d_O_isInvalidRoot_34 : decode b_O_isInvalidRoot 34 = .ok (.invokevirtual 130, 3) := by decide +kernel
theorem d_O_isInvalidRoot_37 : decode b_O_isInvalidRoot 37 = .ok (.ifCond .eq 14, 3) := by decide +kernel
theorem d_O_isInvalidRoot_51 : decode b_O_isInvalidRoot 51 = .ok (.iconst 0, 1) := by decide +kernel
theorem d_O_isInvalidRoot_40 : decode b_O_isInvalidRoot 40 = .ok (.aload_n 0, 1) := by decide +kernel
theorem d_O_isInvalidRoot_41 : decode b_O_isInvalidRoot 41 = .ok (.invokevirtual 164, 3) := by decide +kernel
theorem d_O_isInvalidRoot_44 : decode b_O_isInvalidRoot 44 = .ok (.ifCond .ne 7, 3) := by decide +kernel
theorem d_O_isInvalidRoot_10 : decode b_O_isInvalidRoot 10 = .ok (.aload_n 0, 1) := by decide +kernel
theorem d_O_isInvalidRoot_11 : decode b_O_isInvalidRoot 11 = .ok (.getfield 27, 3) := by decide +kernel
theorem d_O_isInvalidRoot_14 : decode b_O_isInvalidRoot 14 = .ok (.invokevirtual 127, 3) := by decide +kernel
theorem d_O_isInvalidRoot_17 : decode b_O_isInvalidRoot 17 = .ok (.ifCond .eq 30, 3) := by decide +kernel
set_option maxHeartbeats 4000000 in
set_option maxRecDepth 100000 in
theorem c_O_isInvalidRoot (l : Launch) (dC : Nat → ClassId) (dI : Nat → Nat → Nat) (aO : Nat) (a1 : Nat) (aT : Nat) (aF : Nat) (a2 : Nat) (a3 : Nat) (a4 : Nat) (a5 : Nat) (sz : Nat) (cw : Int32) (ts : Int32) (n1 : Bool) (p1 : Int32) (f1 : Int64) : Met l y_O_isInvalidRoot w_O_isInvalidRoot ({ frames := 1, cells := 0, slots := 0, locals := 20 }) (cPc (dC, dI) [] [.ref aO] [(aO, .inr (0, [.ref aT, .ref aF, .int cw, .int ts, .ref a1, .ref a2, .ref a3, .ref a4, .ref a5])), (a1, .inr (1, [.int (b2i n1), .int p1, .long f1]))] sz) (va_Qi (fun (r : Int32) (_ : Unit) => r = b2i ((g_O_isInvalidRoot cw n1 p1 f1))) (fun _ t => va_P (dC, dI) classes [(aO, .inr (0, [.ref aT, .ref aF, .int cw, .int ts, .ref a1, .ref a2, .ref a3, .ref a4, .ref a5])), (a1, .inr (1, [.int (b2i n1), .int p1, .long f1]))] t.heap ∧ va_D (va_A [(aO, .inr (0, [.ref aT, .ref aF, .int cw, .int ts, .ref a1, .ref a2, .ref a3, .ref a4, .ref a5])), (a1, .inr (1, [.int (b2i n1), .int p1, .long f1]))] sz) [(aO, .inr (0, [.ref aT, .ref aF, .int cw, .int ts, .ref a1, .ref a2, .ref a3, .ref a4, .ref a5])), (a1, .inr (1, [.int (b2i n1), .int p1, .long f1]))]) (va_A [(aO, .inr (0, [.ref aT, .ref aF, .int cw, .int ts, .ref a1, .ref a2, .ref a3, .ref a4, .ref a5])), (a1, .inr (1, [.int (b2i n1), .int p1, .long f1]))] sz)) 0 0 (va_A [(aO, .inr (0, [.ref aT, .ref aF, .int cw, .int ts, .ref a1, .ref a2, .ref a3, .ref a4, .ref a5])), (a1, .inr (1, [.int (b2i n1), .int p1, .long f1]))] sz) := by
  refine Met.ofW (cc := b_O_isInvalidRoot) (maxL := 1) (ret := (some .boolean)) (by decide) rfl ?_
  intro p e s m args below meth c s₁ B hml hv
  obtain ⟨rfl, hsz, hP, hK, hD0, hnw⟩ := hv
  have hx := B.exec
  have hb := B.bytes
  have hr := B.returns
  have hts := atoms_spec (ws := w_O_isInvalidRoot) B.pre
  have htA : ∀ w ∈ wAll, w.before _ s = true := fun w h => hts w (List.mem_cons_of_mem _ h)
  have hown : s.vm.findClass R_O = some m.cls := findClass_of_methodNamed B.named
  have hlocks := B.notSynchronized
  subst hsz
  have hD := hD0.self (sz := s.heap.size)
  generalize hAe : va_A [(aO, .inr (0, [.ref aT, .ref aF, .int cw, .int ts, .ref a1, .ref a2, .ref a3, .ref a4, .ref a5])), (a1, .inr (1, [.int (b2i n1), .int p1, .long f1]))] s.heap.size = A at hD ⊢
  have hA : ∀ q : Nat, s.heap.size ≤ q → A q := fun q h => by rw [← hAe]; exact Or.inr h
  have hS : va_S A s.heap s.heap [] := va_S.rf
  have hP : va_P (dC, dI) classes [(aO, .inr (0, [.ref aT, .ref aF, .int cw, .int ts, .ref a1, .ref a2, .ref a3, .ref a4, .ref a5])), (a1, .inr (1, [.int (b2i n1), .int p1, .long f1]))] s.heap := hP
  obtain ⟨H, eH⟩ : ∃ z, z = s.heap := ⟨_, rfl⟩
  rw [← eH] at hP
  have hS : va_S A s.heap H [] := by rw [eH]; exact hS
  rw [← eH]
  generalize ([] : List Loc) = locs at hS ⊢
  have hl := lv_entry ([.ref aO]) (n := 1) (Nat.le_of_ble_eq_true rfl)
  rw [lg_entry_eq]
  generalize (lg_sl ([.ref aO]) ++ List.replicate (1 - (lg_sl ([.ref aO])).length) Slot.unset).toArray = ls at hl ⊢
  have hl : lv_has ls 1 [(0, .ref aO)] := hl
  refine lv_aload_n hx hb d_O_isInvalidRoot_0 rfl (lv_at hl 0 rfl) ?_
  refine va_get (D := (dC, dI)) (ci := 0) (v := .ref a1) (C := R_O) (T := F_O) (N := 9) hx hb htA in_O hown hK hP 0 rfl rfl 4 (by decide) (htA _ k_104) (fun _ h9 => h9) rfl d_O_isInvalidRoot_1 ?_
  refine va_getN (D := (dC, dI)) (ci := 1) (v := .int (b2i n1)) (C := R_R) (T := F_R) (N := 3) hx hb htA in_R hown hK hP 1 rfl rfl 0 (by decide) (va_Nw.use rfl (hnw _ n_5)) (fun _ h9 => h9) rfl d_O_isInvalidRoot_4 ?_
  refine lv_if_eq (tgt := 20) hx hb d_O_isInvalidRoot_7 (by decide) (fun c_7 => ?_) (fun c_7 => ?_)
  · skip
    have c_7 : ¬ n1 = true := b2i_z c_7
    refine lv_aload_n hx hb d_O_isInvalidRoot_20 rfl (lv_at hl 0 rfl) ?_
    refine va_get (D := (dC, dI)) (ci := 0) (v := .ref a1) (C := R_O) (T := F_O) (N := 9) hx hb htA in_O hown hK hP 0 rfl rfl 4 (by decide) (htA _ k_104) (fun _ h9 => h9) rfl d_O_isInvalidRoot_21 ?_
    have hPc := hP.sub (ws' := [(a1, .inr (1, [.int (b2i n1), .int p1, .long f1]))]) [1] rfl
    have hDc := hD.sub (ws' := [(a1, .inr (1, [.int (b2i n1), .int p1, .long f1]))]) [1] (by decide) rfl
    have hKc := hK.sub (tys' := []) [] rfl
    have hFc := va_free (wc := [(a1, .inr (1, [.int (b2i n1), .int p1, .long f1]))]) hD hS hA [1] rfl
    refine cc_i (va_runVN (As := []) (rest := []) ⟨hx, hb, hml, hown, htA⟩ (c_R_isUnnormalOfSize l dC dI a1 H.size n1 p1 f1) ⟨va_cnB 0 htA (gi_code k_26) rfl rfl rfl (hnw _ n_6) (htA _ k_20) (by decide +kernel) ⟨Nat.le_of_ble_eq_true rfl, Nat.le_of_ble_eq_true rfl⟩, htA _ k_107, htA _ k_108⟩ (pre_V hnw hPc hKc hDc (ci := 1) (q0 := 0) rfl rfl) rfl rfl hl.1 rfl (lv_room (Nat.le_of_ble_eq_true rfl)) d_O_isInvalidRoot_24 ⟨Nat.le_of_ble_eq_true rfl, Nat.le_of_ble_eq_true rfl⟩) hS hFc hP hD [1] [0] (wr := [(aO, .inr (0, [.ref aT, .ref aF, .int cw, .int ts, .ref a1, .ref a2, .ref a3, .ref a4, .ref a5]))]) rfl rfl (by decide) (by decide) (fun H locs hP hD hS => ?_)
    have hP : va_P (dC, dI) classes [(aO, .inr (0, [.ref aT, .ref aF, .int cw, .int ts, .ref a1, .ref a2, .ref a3, .ref a4, .ref a5])), (a1, .inr (1, [.int (b2i n1), .int p1, .long f1]))] H := hP
    have hD : va_D A [(aO, .inr (0, [.ref aT, .ref aF, .int cw, .int ts, .ref a1, .ref a2, .ref a3, .ref a4, .ref a5])), (a1, .inr (1, [.int (b2i n1), .int p1, .long f1]))] := hD
    refine lv_if_ne (tgt := 47) hx hb d_O_isInvalidRoot_27 (by decide) (fun c_27 => ?_) (fun c_27 => ?_)
    · skip
      have c_27 : (g_R_isUnnormalOfSize p1 f1) = true := b2i_nz c_27
      refine lv_iconst (v := 1) hx hb d_O_isInvalidRoot_47 (by decide) ?_
      refine lv_goto (tgt := 52) hx hb d_O_isInvalidRoot_48 (by decide) ?_
      have hE : g_O_isInvalidRoot cw n1 p1 f1 = (true) := by clear hP hD hl hS; unfold g_O_isInvalidRoot; (try dsimp only); rw [if_neg c_7, if_pos c_27]
      have hP9 : va_P (dC, dI) classes [(aO, .inr (0, [.ref aT, .ref aF, .int cw, .int ts, .ref a1, .ref a2, .ref a3, .ref a4, .ref a5])), (a1, .inr (1, [.int (b2i n1), .int p1, .long f1]))] H := by exact hP.sub [0, 1] rfl
      have hD9 : va_D A [(aO, .inr (0, [.ref aT, .ref aF, .int cw, .int ts, .ref a1, .ref a2, .ref a3, .ref a4, .ref a5])), (a1, .inr (1, [.int (b2i n1), .int p1, .long f1]))] := by exact hD.sub [0, 1] (by decide) rfl
      exact W.zret (v := 1) hx hb hr (by first | exact nar_b2i _ | rfl) (fun t ht hW => ⟨⟨1, (), rfl, by rw [hE]; rfl, by rw [ht]; exact hP9, hD9⟩, hS.F ht⟩) hS.2.2 d_O_isInvalidRoot_52
    · skip
      have c_27 : ¬ (g_R_isUnnormalOfSize p1 f1) = true := b2i_z c_27
      refine lv_aload_n hx hb d_O_isInvalidRoot_30 rfl (lv_at hl 0 rfl) ?_
      refine va_get (D := (dC, dI)) (ci := 0) (v := .ref a1) (C := R_O) (T := F_O) (N := 9) hx hb htA in_O hown hK hP 0 rfl rfl 4 (by decide) (htA _ k_104) (fun _ h9 => h9) rfl d_O_isInvalidRoot_31 ?_
      have hPc := hP.sub (ws' := [(a1, .inr (1, [.int (b2i n1), .int p1, .long f1]))]) [1] rfl
      have hDc := hD.sub (ws' := [(a1, .inr (1, [.int (b2i n1), .int p1, .long f1]))]) [1] (by decide) rfl
      have hKc := hK.sub (tys' := []) [] rfl
      have hFc := va_free (wc := [(a1, .inr (1, [.int (b2i n1), .int p1, .long f1]))]) hD hS hA [1] rfl
      refine cc_i (va_runVN (As := []) (rest := []) ⟨hx, hb, hml, hown, htA⟩ (c_R_isInfinite l dC dI a1 H.size n1 p1 f1) ⟨va_cnB 0 htA (gi_code k_28) rfl rfl rfl (hnw _ n_7) (htA _ k_20) (by decide +kernel) ⟨Nat.le_of_ble_eq_true rfl, Nat.le_of_ble_eq_true rfl⟩, htA _ k_109, htA _ k_110⟩ (pre_V hnw hPc hKc hDc (ci := 1) (q0 := 0) rfl rfl) rfl rfl hl.1 rfl (lv_room (Nat.le_of_ble_eq_true rfl)) d_O_isInvalidRoot_34 ⟨Nat.le_of_ble_eq_true rfl, Nat.le_of_ble_eq_true rfl⟩) hS hFc hP hD [1] [0] (wr := [(aO, .inr (0, [.ref aT, .ref aF, .int cw, .int ts, .ref a1, .ref a2, .ref a3, .ref a4, .ref a5]))]) rfl rfl (by decide) (by decide) (fun H locs hP hD hS => ?_)
      have hP : va_P (dC, dI) classes [(aO, .inr (0, [.ref aT, .ref aF, .int cw, .int ts, .ref a1, .ref a2, .ref a3, .ref a4, .ref a5])), (a1, .inr (1, [.int (b2i n1), .int p1, .long f1]))] H := hP
      have hD : va_D A [(aO, .inr (0, [.ref aT, .ref aF, .int cw, .int ts, .ref a1, .ref a2, .ref a3, .ref a4, .ref a5])), (a1, .inr (1, [.int (b2i n1), .int p1, .long f1]))] := hD
      refine lv_if_eq (tgt := 51) hx hb d_O_isInvalidRoot_37 (by decide) (fun c_37 => ?_) (fun c_37 => ?_)
      · skip
        have c_37 : ¬ (g_R_isInfinite p1 f1) = true := b2i_z c_37
        refine lv_iconst (v := 0) hx hb d_O_isInvalidRoot_51 (by decide) ?_
        have hE : g_O_isInvalidRoot cw n1 p1 f1 = (false) := by clear hP hD hl hS; unfold g_O_isInvalidRoot; (try dsimp only); rw [if_neg c_7, if_neg c_27, if_neg c_37]
        have hP9 : va_P (dC, dI) classes [(aO, .inr (0, [.ref aT, .ref aF, .int cw, .int ts, .ref a1, .ref a2, .ref a3, .ref a4, .ref a5])), (a1, .inr (1, [.int (b2i n1), .int p1, .long f1]))] H := by exact hP.sub [0, 1] rfl
        have hD9 : va_D A [(aO, .inr (0, [.ref aT, .ref aF, .int cw, .int ts, .ref a1, .ref a2, .ref a3, .ref a4, .ref a5])), (a1, .inr (1, [.int (b2i n1), .int p1, .long f1]))] := by exact hD.sub [0, 1] (by decide) rfl
        exact W.zret (v := 0) hx hb hr (by first | exact nar_b2i _ | rfl) (fun t ht hW => ⟨⟨0, (), rfl, by rw [hE]; rfl, by rw [ht]; exact hP9, hD9⟩, hS.F ht⟩) hS.2.2 d_O_isInvalidRoot_52
      · skip
        have c_37 : (g_R_isInfinite p1 f1) = true := b2i_nz c_37
        refine lv_aload_n hx hb d_O_isInvalidRoot_40 rfl (lv_at hl 0 rfl) ?_
        have hPc := hP.sub (ws' := [(aO, .inr (0, [.ref aT, .ref aF, .int cw, .int ts, .ref a1, .ref a2, .ref a3, .ref a4, .ref a5]))]) [0] rfl
        have hDc := hD.sub (ws' := [(aO, .inr (0, [.ref aT, .ref aF, .int cw, .int ts, .ref a1, .ref a2, .ref a3, .ref a4, .ref a5]))]) [0] (by decide) rfl
        have hKc := hK.sub (tys' := []) [] rfl
        have hFc := va_free (wc := [(aO, .inr (0, [.ref aT, .ref aF, .int cw, .int ts, .ref a1, .ref a2, .ref a3, .ref a4, .ref a5]))]) hD hS hA [0] rfl
        refine cc_i (va_runV (As := []) (rest := []) ⟨hx, hb, hml, hown, htA⟩ (c_O_hasTwoInfinites l dC dI aO aT aF a1 a2 a3 a4 a5 H.size cw ts) (cwV 0 htA (gi_V k_111 k_112 k_113 k_90 (gi_code k_100)) rfl rfl rfl (by decide +kernel) ⟨Nat.le_of_ble_eq_true rfl, Nat.le_of_ble_eq_true rfl⟩) (pre_V hnw hPc hKc hDc (ci := 0) (q0 := 0) rfl rfl) rfl rfl hl.1 rfl (lv_room (Nat.le_of_ble_eq_true rfl)) d_O_isInvalidRoot_41 ⟨Nat.le_of_ble_eq_true rfl, Nat.le_of_ble_eq_true rfl⟩) hS hFc hP hD [0] [1] (wr := [(a1, .inr (1, [.int (b2i n1), .int p1, .long f1]))]) rfl rfl (by decide) (by decide) (fun H locs hP hD hS => ?_)
        have hP : va_P (dC, dI) classes [(a1, .inr (1, [.int (b2i n1), .int p1, .long f1])), (aO, .inr (0, [.ref aT, .ref aF, .int cw, .int ts, .ref a1, .ref a2, .ref a3, .ref a4, .ref a5]))] H := hP
        have hD : va_D A [(a1, .inr (1, [.int (b2i n1), .int p1, .long f1])), (aO, .inr (0, [.ref aT, .ref aF, .int cw, .int ts, .ref a1, .ref a2, .ref a3, .ref a4, .ref a5]))] := hD
        refine lv_if_ne (tgt := 51) hx hb d_O_isInvalidRoot_44 (by decide) (fun c_44 => ?_) (fun c_44 => ?_)
        · skip
          have c_44 : (g_O_hasTwoInfinites cw) = true := b2i_nz c_44
          refine lv_iconst (v := 0) hx hb d_O_isInvalidRoot_51 (by decide) ?_
          have hE : g_O_isInvalidRoot cw n1 p1 f1 = (false) := by clear hP hD hl hS; unfold g_O_isInvalidRoot; (try dsimp only); rw [if_neg c_7, if_neg c_27, if_pos c_37, if_pos c_44]
          have hP9 : va_P (dC, dI) classes [(aO, .inr (0, [.ref aT, .ref aF, .int cw, .int ts, .ref a1, .ref a2, .ref a3, .ref a4, .ref a5])), (a1, .inr (1, [.int (b2i n1), .int p1, .long f1]))] H := by exact hP.sub [1, 0] rfl
          have hD9 : va_D A [(aO, .inr (0, [.ref aT, .ref aF, .int cw, .int ts, .ref a1, .ref a2, .ref a3, .ref a4, .ref a5])), (a1, .inr (1, [.int (b2i n1), .int p1, .long f1]))] := by exact hD.sub [1, 0] (by decide) rfl
          exact W.zret (v := 0) hx hb hr (by first | exact nar_b2i _ | rfl) (fun t ht hW => ⟨⟨0, (), rfl, by rw [hE]; rfl, by rw [ht]; exact hP9, hD9⟩, hS.F ht⟩) hS.2.2 d_O_isInvalidRoot_52
        · skip
          have c_44 : ¬ (g_O_hasTwoInfinites cw) = true := b2i_z c_44
          refine lv_iconst (v := 1) hx hb d_O_isInvalidRoot_47 (by decide) ?_
          refine lv_goto (tgt := 52) hx hb d_O_isInvalidRoot_48 (by decide) ?_
          have hE : g_O_isInvalidRoot cw n1 p1 f1 = (true) := by clear hP hD hl hS; unfold g_O_isInvalidRoot; (try dsimp only); rw [if_neg c_7, if_neg c_27, if_pos c_37, if_neg c_44]
          have hP9 : va_P (dC, dI) classes [(aO, .inr (0, [.ref aT, .ref aF, .int cw, .int ts, .ref a1, .ref a2, .ref a3, .ref a4, .ref a5])), (a1, .inr (1, [.int (b2i n1), .int p1, .long f1]))] H := by exact hP.sub [1, 0] rfl
          have hD9 : va_D A [(aO, .inr (0, [.ref aT, .ref aF, .int cw, .int ts, .ref a1, .ref a2, .ref a3, .ref a4, .ref a5])), (a1, .inr (1, [.int (b2i n1), .int p1, .long f1]))] := by exact hD.sub [1, 0] (by decide) rfl
          exact W.zret (v := 1) hx hb hr (by first | exact nar_b2i _ | rfl) (fun t ht hW => ⟨⟨1, (), rfl, by rw [hE]; rfl, by rw [ht]; exact hP9, hD9⟩, hS.F ht⟩) hS.2.2 d_O_isInvalidRoot_52
  · skip
    have c_7 : n1 = true := b2i_nz c_7
    refine lv_aload_n hx hb d_O_isInvalidRoot_10 rfl (lv_at hl 0 rfl) ?_
    refine va_get (D := (dC, dI)) (ci := 0) (v := .ref a1) (C := R_O) (T := F_O) (N := 9) hx hb htA in_O hown hK hP 0 rfl rfl 4 (by decide) (htA _ k_104) (fun _ h9 => h9) rfl d_O_isInvalidRoot_11 ?_
    have hPc := hP.sub (ws' := [(a1, .inr (1, [.int (b2i n1), .int p1, .long f1]))]) [1] rfl
    have hDc := hD.sub (ws' := [(a1, .inr (1, [.int (b2i n1), .int p1, .long f1]))]) [1] (by decide) rfl
    have hKc := hK.sub (tys' := []) [] rfl
    have hFc := va_free (wc := [(a1, .inr (1, [.int (b2i n1), .int p1, .long f1]))]) hD hS hA [1] rfl
    refine cc_i (va_runVN (As := []) (rest := []) ⟨hx, hb, hml, hown, htA⟩ (c_R_isNothing l dC dI a1 H.size n1 p1 f1) ⟨va_cnB 0 htA (gi_code k_27) rfl rfl rfl (hnw _ n_8) (htA _ k_20) (by decide +kernel) ⟨Nat.le_of_ble_eq_true rfl, Nat.le_of_ble_eq_true rfl⟩, htA _ k_114, htA _ k_115⟩ (pre_V hnw hPc hKc hDc (ci := 1) (q0 := 0) rfl rfl) rfl rfl hl.1 rfl (lv_room (Nat.le_of_ble_eq_true rfl)) d_O_isInvalidRoot_14 ⟨Nat.le_of_ble_eq_true rfl, Nat.le_of_ble_eq_true rfl⟩) hS hFc hP hD [1] [0] (wr := [(aO, .inr (0, [.ref aT, .ref aF, .int cw, .int ts, .ref a1, .ref a2, .ref a3, .ref a4, .ref a5]))]) rfl rfl (by decide) (by decide) (fun H locs hP hD hS => ?_)
    have hP : va_P (dC, dI) classes [(aO, .inr (0, [.ref aT, .ref aF, .int cw, .int ts, .ref a1, .ref a2, .ref a3, .ref a4, .ref a5])), (a1, .inr (1, [.int (b2i n1), .int p1, .long f1]))] H := hP
    have hD : va_D A [(aO, .inr (0, [.ref aT, .ref aF, .int cw, .int ts, .ref a1, .ref a2, .ref a3, .ref a4, .ref a5])), (a1, .inr (1, [.int (b2i n1), .int p1, .long f1]))] := hD
    refine lv_if_eq (tgt := 47) hx hb d_O_isInvalidRoot_17 (by decide) (fun c_17 => ?_) (fun c_17 => ?_)
    · skip
      have c_17 : ¬ (g_R_isNothing p1 f1) = true := b2i_z c_17
      refine lv_iconst (v := 1) hx hb d_O_isInvalidRoot_47 (by decide) ?_
      refine lv_goto (tgt := 52) hx hb d_O_isInvalidRoot_48 (by decide) ?_
      have hE : g_O_isInvalidRoot cw n1 p1 f1 = (true) := by clear hP hD hl hS; unfold g_O_isInvalidRoot; (try dsimp only); rw [if_pos c_7, if_neg c_17]
      have hP9 : va_P (dC, dI) classes [(aO, .inr (0, [.ref aT, .ref aF, .int cw, .int ts, .ref a1, .ref a2, .ref a3, .ref a4, .ref a5])), (a1, .inr (1, [.int (b2i n1), .int p1, .long f1]))] H := by exact hP.sub [0, 1] rfl
      have hD9 : va_D A [(aO, .inr (0, [.ref aT, .ref aF, .int cw, .int ts, .ref a1, .ref a2, .ref a3, .ref a4, .ref a5])), (a1, .inr (1, [.int (b2i n1), .int p1, .long f1]))] := by exact hD.sub [0, 1] (by decide) rfl
      exact W.zret (v := 1) hx hb hr (by first | exact nar_b2i _ | rfl) (fun t ht hW => ⟨⟨1, (), rfl, by rw [hE]; rfl, by rw [ht]; exact hP9, hD9⟩, hS.F ht⟩) hS.2.2 d_O_isInvalidRoot_52
    · skip
      have c_17 : (g_R_isNothing p1 f1) = true := b2i_nz c_17
      refine lv_aload_n hx hb d_O_isInvalidRoot_20 rfl (lv_at hl 0 rfl) ?_
      refine va_get (D := (dC, dI)) (ci := 0) (v := .ref a1) (C := R_O) (T := F_O) (N := 9) hx hb htA in_O hown hK hP 0 rfl rfl 4 (by decide) (htA _ k_104) (fun _ h9 => h9) rfl d_O_isInvalidRoot_21 ?_
      have hPc := hP.sub (ws' := [(a1, .inr (1, [.int (b2i n1), .int p1, .long f1]))]) [1] rfl
      have hDc := hD.sub (ws' := [(a1, .inr (1, [.int (b2i n1), .int p1, .long f1]))]) [1] (by decide) rfl
      have hKc := hK.sub (tys' := []) [] rfl
      have hFc := va_free (wc := [(a1, .inr (1, [.int (b2i n1), .int p1, .long f1]))]) hD hS hA [1] rfl
      refine cc_i (va_runVN (As := []) (rest := []) ⟨hx, hb, hml, hown, htA⟩ (c_R_isUnnormalOfSize l dC dI a1 H.size n1 p1 f1) ⟨va_cnB 0 htA (gi_code k_26) rfl rfl rfl (hnw _ n_6) (htA _ k_20) (by decide +kernel) ⟨Nat.le_of_ble_eq_true rfl, Nat.le_of_ble_eq_true rfl⟩, htA _ k_107, htA _ k_108⟩ (pre_V hnw hPc hKc hDc (ci := 1) (q0 := 0) rfl rfl) rfl rfl hl.1 rfl (lv_room (Nat.le_of_ble_eq_true rfl)) d_O_isInvalidRoot_24 ⟨Nat.le_of_ble_eq_true rfl, Nat.le_of_ble_eq_true rfl⟩) hS hFc hP hD [1] [0] (wr := [(aO, .inr (0, [.ref aT, .ref aF, .int cw, .int ts, .ref a1, .ref a2, .ref a3, .ref a4, .ref a5]))]) rfl rfl (by decide) (by decide) (fun H locs hP hD hS => ?_)
      have hP : va_P (dC, dI) classes [(aO, .inr (0, [.ref aT, .ref aF, .int cw, .int ts, .ref a1, .ref a2, .ref a3, .ref a4, .ref a5])), (a1, .inr (1, [.int (b2i n1), .int p1, .long f1]))] H := hP
      have hD : va_D A [(aO, .inr (0, [.ref aT, .ref aF, .int cw, .int ts, .ref a1, .ref a2, .ref a3, .ref a4, .ref a5])), (a1, .inr (1, [.int (b2i n1), .int p1, .long f1]))] := hD
      refine lv_if_ne (tgt := 47) hx hb d_O_isInvalidRoot_27 (by decide) (fun c_27 => ?_) (fun c_27 => ?_)
      · skip
        have c_27 : (g_R_isUnnormalOfSize p1 f1) = true := b2i_nz c_27
        refine lv_iconst (v := 1) hx hb d_O_isInvalidRoot_47 (by decide) ?_
        refine lv_goto (tgt := 52) hx hb d_O_isInvalidRoot_48 (by decide) ?_
        have hE : g_O_isInvalidRoot cw n1 p1 f1 = (true) := by clear hP hD hl hS; unfold g_O_isInvalidRoot; (try dsimp only); rw [if_pos c_7, if_pos c_17, if_pos c_27]
        have hP9 : va_P (dC, dI) classes [(aO, .inr (0, [.ref aT, .ref aF, .int cw, .int ts, .ref a1, .ref a2, .ref a3, .ref a4, .ref a5])), (a1, .inr (1, [.int (b2i n1), .int p1, .long f1]))] H := by exact hP.sub [0, 1] rfl
        have hD9 : va_D A [(aO, .inr (0, [.ref aT, .ref aF, .int cw, .int ts, .ref a1, .ref a2, .ref a3, .ref a4, .ref a5])), (a1, .inr (1, [.int (b2i n1), .int p1, .long f1]))] := by exact hD.sub [0, 1] (by decide) rfl
        exact W.zret (v := 1) hx hb hr (by first | exact nar_b2i _ | rfl) (fun t ht hW => ⟨⟨1, (), rfl, by rw [hE]; rfl, by rw [ht]; exact hP9, hD9⟩, hS.F ht⟩) hS.2.2 d_O_isInvalidRoot_52
      · skip
        have c_27 : ¬ (g_R_isUnnormalOfSize p1 f1) = true := b2i_z c_27
        refine lv_aload_n hx hb d_O_isInvalidRoot_30 rfl (lv_at hl 0 rfl) ?_
        refine va_get (D := (dC, dI)) (ci := 0) (v := .ref a1) (C := R_O) (T := F_O) (N := 9) hx hb htA in_O hown hK hP 0 rfl rfl 4 (by decide) (htA _ k_104) (fun _ h9 => h9) rfl d_O_isInvalidRoot_31 ?_
        have hPc := hP.sub (ws' := [(a1, .inr (1, [.int (b2i n1), .int p1, .long f1]))]) [1] rfl
        have hDc := hD.sub (ws' := [(a1, .inr (1, [.int (b2i n1), .int p1, .long f1]))]) [1] (by decide) rfl
        have hKc := hK.sub (tys' := []) [] rfl
        have hFc := va_free (wc := [(a1, .inr (1, [.int (b2i n1), .int p1, .long f1]))]) hD hS hA [1] rfl
        refine cc_i (va_runVN (As := []) (rest := []) ⟨hx, hb, hml, hown, htA⟩ (c_R_isInfinite l dC dI a1 H.size n1 p1 f1) ⟨va_cnB 0 htA (gi_code k_28) rfl rfl rfl (hnw _ n_7) (htA _ k_20) (by decide +kernel) ⟨Nat.le_of_ble_eq_true rfl, Nat.le_of_ble_eq_true rfl⟩, htA _ k_109, htA _ k_110⟩ (pre_V hnw hPc hKc hDc (ci := 1) (q0 := 0) rfl rfl) rfl rfl hl.1 rfl (lv_room (Nat.le_of_ble_eq_true rfl)) d_O_isInvalidRoot_34 ⟨Nat.le_of_ble_eq_true rfl, Nat.le_of_ble_eq_true rfl⟩) hS hFc hP hD [1] [0] (wr := [(aO, .inr (0, [.ref aT, .ref aF, .int cw, .int ts, .ref a1, .ref a2, .ref a3, .ref a4, .ref a5]))]) rfl rfl (by decide) (by decide) (fun H locs hP hD hS => ?_)
        have hP : va_P (dC, dI) classes [(aO, .inr (0, [.ref aT, .ref aF, .int cw, .int ts, .ref a1, .ref a2, .ref a3, .ref a4, .ref a5])), (a1, .inr (1, [.int (b2i n1), .int p1, .long f1]))] H := hP
        have hD : va_D A [(aO, .inr (0, [.ref aT, .ref aF, .int cw, .int ts, .ref a1, .ref a2, .ref a3, .ref a4, .ref a5])), (a1, .inr (1, [.int (b2i n1), .int p1, .long f1]))] := hD
        refine lv_if_eq (tgt := 51) hx hb d_O_isInvalidRoot_37 (by decide) (fun c_37 => ?_) (fun c_37 => ?_)
        · skip
          have c_37 : ¬ (g_R_isInfinite p1 f1) = true := b2i_z c_37
          refine lv_iconst (v := 0) hx hb d_O_isInvalidRoot_51 (by decide) ?_
          have hE : g_O_isInvalidRoot cw n1 p1 f1 = (false) := by clear hP hD hl hS; unfold g_O_isInvalidRoot; (try dsimp only); rw [if_pos c_7, if_pos c_17, if_neg c_27, if_neg c_37]
          have hP9 : va_P (dC, dI) classes [(aO, .inr (0, [.ref aT, .ref aF, .int cw, .int ts, .ref a1, .ref a2, .ref a3, .ref a4, .ref a5])), (a1, .inr (1, [.int (b2i n1), .int p1, .long f1]))] H := by exact hP.sub [0, 1] rfl
          have hD9 : va_D A [(aO, .inr (0, [.ref aT, .ref aF, .int cw, .int ts, .ref a1, .ref a2, .ref a3, .ref a4, .ref a5])), (a1, .inr (1, [.int (b2i n1), .int p1, .long f1]))] := by exact hD.sub [0, 1] (by decide) rfl
          exact W.zret (v := 0) hx hb hr (by first | exact nar_b2i _ | rfl) (fun t ht hW => ⟨⟨0, (), rfl, by rw [hE]; rfl, by rw [ht]; exact hP9, hD9⟩, hS.F ht⟩) hS.2.2 d_O_isInvalidRoot_52
        · skip
          have c_37 : (g_R_isInfinite p1 f1) = true := b2i_nz c_37
          refine lv_aload_n hx hb d_O_isInvalidRoot_40 rfl (lv_at hl 0 rfl) ?_
          have hPc := hP.sub (ws' := [(aO, .inr (0, [.ref aT, .ref aF, .int cw, .int ts, .ref a1, .ref a2, .ref a3, .ref a4, .ref a5]))]) [0] rfl
          have hDc := hD.sub (ws' := [(aO, .inr (0, [.ref aT, .ref aF, .int cw, .int ts, .ref a1, .ref a2, .ref a3, .ref a4, .ref a5]))]) [0] (by decide) rfl
          have hKc := hK.sub (tys' := []) [] rfl
          have hFc := va_free (wc := [(aO, .inr (0, [.ref aT, .ref aF, .int cw, .int ts, .ref a1, .ref a2, .ref a3, .ref a4, .ref a5]))]) hD hS hA [0] rfl
          refine cc_i (va_runV (As := []) (rest := []) ⟨hx, hb, hml, hown, htA⟩ (c_O_hasTwoInfinites l dC dI aO aT aF a1 a2 a3 a4 a5 H.size cw ts) (cwV 0 htA (gi_V k_111 k_112 k_113 k_90 (gi_code k_100)) rfl rfl rfl (by decide +kernel) ⟨Nat.le_of_ble_eq_true rfl, Nat.le_of_ble_eq_true rfl⟩) (pre_V hnw hPc hKc hDc (ci := 0) (q0 := 0) rfl rfl) rfl rfl hl.1 rfl (lv_room (Nat.le_of_ble_eq_true rfl)) d_O_isInvalidRoot_41 ⟨Nat.le_of_ble_eq_true rfl, Nat.le_of_ble_eq_true rfl⟩) hS hFc hP hD [0] [1] (wr := [(a1, .inr (1, [.int (b2i n1), .int p1, .long f1]))]) rfl rfl (by decide) (by decide) (fun H locs hP hD hS => ?_)
          have hP : va_P (dC, dI) classes [(a1, .inr (1, [.int (b2i n1), .int p1, .long f1])), (aO, .inr (0, [.ref aT, .ref aF, .int cw, .int ts, .ref a1, .ref a2, .ref a3, .ref a4, .ref a5]))] H := hP
          have hD : va_D A [(a1, .inr (1, [.int (b2i n1), .int p1, .long f1])), (aO, .inr (0, [.ref aT, .ref aF, .int cw, .int ts, .ref a1, .ref a2, .ref a3, .ref a4, .ref a5]))] := hD
          refine lv_if_ne (tgt := 51) hx hb d_O_isInvalidRoot_44 (by decide) (fun c_44 => ?_) (fun c_44 => ?_)
          · skip
            have c_44 : (g_O_hasTwoInfinites cw) = true := b2i_nz c_44
            refine lv_iconst (v := 0) hx hb d_O_isInvalidRoot_51 (by decide) ?_
            have hE : g_O_isInvalidRoot cw n1 p1 f1 = (false) := by clear hP hD hl hS; unfold g_O_isInvalidRoot; (try dsimp only); rw [if_pos c_7, if_pos c_17, if_neg c_27, if_pos c_37, if_pos c_44]
            have hP9 : va_P (dC, dI) classes [(aO, .inr (0, [.ref aT, .ref aF, .int cw, .int ts, .ref a1, .ref a2, .ref a3, .ref a4, .ref a5])), (a1, .inr (1, [.int (b2i n1), .int p1, .long f1]))] H := by exact hP.sub [1, 0] rfl
            have hD9 : va_D A [(aO, .inr (0, [.ref aT, .ref aF, .int cw, .int ts, .ref a1, .ref a2, .ref a3, .ref a4, .ref a5])), (a1, .inr (1, [.int (b2i n1), .int p1, .long f1]))] := by exact hD.sub [1, 0] (by decide) rfl
            exact W.zret (v := 0) hx hb hr (by first | exact nar_b2i _ | rfl) (fun t ht hW => ⟨⟨0, (), rfl, by rw [hE]; rfl, by rw [ht]; exact hP9, hD9⟩, hS.F ht⟩) hS.2.2 d_O_isInvalidRoot_52
          · skip
            have c_44 : ¬ (g_O_hasTwoInfinites cw) = true := b2i_z c_44
            refine lv_iconst (v := 1) hx hb d_O_isInvalidRoot_47 (by decide) ?_
            refine lv_goto (tgt := 52) hx hb d_O_isInvalidRoot_48 (by decide) ?_
            have hE : g_O_isInvalidRoot cw n1 p1 f1 = (true) := by clear hP hD hl hS; unfold g_O_isInvalidRoot; (try dsimp only); rw [if_pos c_7, if_pos c_17, if_neg c_27, if_pos c_37, if_neg c_44]
            have hP9 : va_P (dC, dI) classes [(aO, .inr (0, [.ref aT, .ref aF, .int cw, .int ts, .ref a1, .ref a2, .ref a3, .ref a4, .ref a5])), (a1, .inr (1, [.int (b2i n1), .int p1, .long f1]))] H := by exact hP.sub [1, 0] rfl
            have hD9 : va_D A [(aO, .inr (0, [.ref aT, .ref aF, .int cw, .int ts, .ref a1, .ref a2, .ref a3, .ref a4, .ref a5])), (a1, .inr (1, [.int (b2i n1), .int p1, .long f1]))] := by exact hD.sub [1, 0] (by decide) rfl
            exact W.zret (v := 1) hx hb hr (by first | exact nar_b2i _ | rfl) (fun t ht hW => ⟨⟨1, (), rfl, by rw [hE]; rfl, by rw [ht]; exact hP9, hD9⟩, hS.F ht⟩) hS.2.2 d_O_isInvalidRoot_52
theorem d_O_isInvalid_0 : decode b_O_isInvalid 0 = .ok (.iload_n 1, 1) := by decide +kernel
theorem d_O_isInvalid_1 : decode b_O_isInvalid 1 = .ok (.bipush 6, 2) := by decide +kernel
theorem d_O_isInvalid_3 : decode b_O_isInvalid 3 = .ok (.if_icmp .ne 8, 3) := by decide +kernel
theorem d_O_isInvalid_11 : decode b_O_isInvalid 11 = .ok (.aload_n 0, 1) := by decide +kernel
theorem d_O_isInvalid_12 : decode b_O_isInvalid 12 = .ok (.getfield 27, 3) := by decide +kernel
theorem d_O_isInvalid_15 : decode b_O_isInvalid 15 = .ok (.invokevirtual 130, 3) := by decide +kernel
theorem d_O_isInvalid_18 : decode b_O_isInvalid 18 = .ok (.ifCond .eq 17, 3) := by decide +kernel
theorem d_O_isInvalid_35 : decode b_O_isInvalid 35 = .ok (.iconst 0, 1) := by decide +kernel
theorem d_O_isInvalid_36 : decode b_O_isInvalid 36 = .ok (.istore_n 2, 1) := by decide +kernel
theorem d_O_isInvalid_37 : decode b_O_isInvalid 37 = .ok (.iload_n 1, 1) := by decide +kernel
theorem d_O_isInvalid_38 : decode b_O_isInvalid 38 = .ok (.invokestatic 161, 3) := by decide +kernel
theorem d_O_isInvalid_41 : decode b_O_isInvalid 41 = .ok (.ifCond .eq 27, 3) := by decide +kernel
theorem d_O_isInvalid_68 : decode b_O_isInvalid 68 = .ok (.iload_n 1, 1) := by decide +kernel
theorem d_O_isInvalid_69 : decode b_O_isInvalid 69 = .ok (.iconst 3, 1) := by decide +kernel
theorem d_O_isInvalid_70 : decode b_O_isInvalid 70 = .ok (.if_icmp .ne 49, 3) := by decide +kernel
theorem d_O_isInvalid_119 : decode b_O_isInvalid 119 = .ok (.iload_n 2, 1) := by decide +kernel
theorem d_O_isInvalid_120 : decode b_O_isInvalid 120 = .ok (.ifCond .ne 33, 3) := by decide +kernel
theorem d_O_isInvalid_123 : decode b_O_isInvalid 123 = .ok (.aload_n 0, 1) := by decide +kernel
theorem d_O_isInvalid_124 : decode b_O_isInvalid 124 = .ok (.getfield 27, 3) := by decide +kernel
theorem d_O_isInvalid_127 : decode b_O_isInvalid 127 = .ok (.invokevirtual 127, 3) := by decide +kernel
theorem d_O_isInvalid_130 : decode b_O_isInvalid 130 = .ok (.ifCond .eq 13, 3) := by decide +kernel
theorem d_O_isInvalid_143 : decode b_O_isInvalid 143 = .ok (.aload_n 0, 1) := by decide +kernel
theorem d_O_isInvalid_144 : decode b_O_isInvalid 144 = .ok (.getfield 31, 3) := by decide +kernel
theorem d_O_isInvalid_147 : decode b_O_isInvalid 147 = .ok (.invokevirtual 167, 3) := by decide +kernel
theorem d_O_isInvalid_150 : decode b_O_isInvalid 150 = .ok (.ifCond .eq 7, 3) := by decide +kernel
theorem d_O_isInvalid_157 : decode b_O_isInvalid 157 = .ok (.iconst 0, 1) := by decide +kernel
theorem d_O_isInvalid_158 : decode b_O_isInvalid 158 = .ok (.ireturn, 1) := by decide +kernel
theorem d_O_isInvalid_153 : decode b_O_isInvalid 153 = .ok (.iconst 1, 1) := by decide +kernel
theorem d_O_isInvalid_154 : decode b_O_isInvalid 154 = .ok (.goto 4, 3) := by decide +kernel
theorem d_O_isInvalid_133 : decode b_O_isInvalid 133 = .ok (.aload_n 0, 1) := by decide +kernel
theorem d_O_isInvalid_134 : decode b_O_isInvalid 134 = .ok (.getfield 31, 3) := by decide +kernel
theorem d_O_isInvalid_137 : decode b_O_isInvalid 137 = .ok (.invokevirtual 127, 3) := by decide +kernel
theorem d_O_isInvalid_140 : decode b_O_isInvalid 140 = .ok (.ifCond .ne 13, 3) := by decide +kernel
theorem d_O_isInvalid_73 : decode b_O_isInvalid 73 = .ok (.aload_n 0, 1) := by decide +kernel
theorem d_O_isInvalid_74 : decode b_O_isInvalid 74 = .ok (.getfield 27, 3) := by decide +kernel
theorem d_O_isInvalid_77 : decode b_O_isInvalid 77 = .ok (.invokevirtual 130, 3) := by decide +kernel
theorem d_O_isInvalid_80 : decode b_O_isInvalid 80 = .ok (.ifCond .eq 13, 3) := by decide +kernel
theorem d_O_isInvalid_93 : decode b_O_isInvalid 93 = .ok (.aload_n 0, 1) := by decide +kernel
theorem d_O_isInvalid_94 : decode b_O_isInvalid 94 = .ok (.getfield 27, 3) := by decide +kernel
theorem d_O_isInvalid_97 : decode b_O_isInvalid 97 = .ok (.invokevirtual 127, 3) := by decide +kernel
theorem d_O_isInvalid_100 : decode b_O_isInvalid 100 = .ok (.ifCond .eq 17, 3) := by decide +kernel
theorem d_O_isInvalid_117 : decode b_O_isInvalid 117 = .ok (.iconst 0, 1) := by decide +kernel
theorem d_O_isInvalid_118 : decode b_O_isInvalid 118 = .ok (.ireturn, 1) := by decide +kernel
theorem d_O_isInvalid_103 : decode b_O_isInvalid 103 = .ok (.aload_n 0, 1) := by decide +kernel
theorem d_O_isInvalid_104 : decode b_O_isInvalid 104 = .ok (.getfield 31, 3) := by decide +kernel
theorem d_O_isInvalid_107 : decode b_O_isInvalid 107 = .ok (.invokevirtual 130, 3) := by decide +kernel
theorem d_O_isInvalid_110 : decode b_O_isInvalid 110 = .ok (.ifCond .eq 7, 3) := by decide +kernel
theorem d_O_isInvalid_113 : decode b_O_isInvalid 113 = .ok (.iconst 1, 1) := by decide +kernel
theorem d_O_isInvalid_114 : decode b_O_isInvalid 114 = .ok (.goto 4, 3) := by decide +kernel
theorem d_O_isInvalid_83 : decode b_O_isInvalid 83 = .ok (.aload_n 0, 1) := by decide +kernel
theorem d_O_isInvalid_84 : decode b_O_isInvalid 84 = .ok (.getfield 31, 3) := by decide +kernel
theorem d_O_isInvalid_87 : decode b_O_isInvalid 87 = .ok (.invokevirtual 127, 3) := by decide +kernel
theorem d_O_isInvalid_90 : decode b_O_isInvalid 90 = .ok (.ifCond .ne 23, 3) := by decide +kernel
theorem d_O_isInvalid_44 : decode b_O_isInvalid 44 = .ok (.iload_n 2, 1) := by decide +kernel
theorem d_O_isInvalid_45 : decode b_O_isInvalid 45 = .ok (.ifCond .eq 21, 3) := by decide +kernel
theorem d_O_isInvalid_66 : decode b_O_isInvalid 66 = .ok (.iconst 0, 1) := by decide +kernel
theorem d_O_isInvalid_67 : decode b_O_isInvalid 67 = .ok (.ireturn, 1) := by decide +kernel
theorem d_O_isInvalid_21 : decode b_O_isInvalid 21 = .ok (.aload_n 0, 1) := by decide +kernel
theorem d_O_isInvalid_22 : decode b_O_isInvalid 22 = .ok (.getfield 31, 3) := by decide +kernel
theorem d_O_isInvalid_25 : decode b_O_isInvalid 25 = .ok (.invokevirtual 130, 3) := by decide +kernel
theorem d_O_isInvalid_28 : decode b_O_isInvalid 28 = .ok (.ifCond .eq 7, 3) := by decide +kernel
theorem d_O_isInvalid_31 : decode b_O_isInvalid 31 = .ok (.iconst 1, 1) := by decide +kernel
theorem d_O_isInvalid_32 : decode b_O_isInvalid 32 = .ok (.goto 4, 3) := by decide +kernel
theorem d_O_isInvalid_48 : decode b_O_isInvalid 48 = .ok (.aload_n 0, 1) := by decide +kernel
theorem d_O_isInvalid_49 : decode b_O_isInvalid 49 = .ok (.invokevirtual 164, 3) := by decide +kernel
theorem d_O_isInvalid_52 : decode b_O_isInvalid 52 = .ok (.ifCond .eq 10, 3) := by decide +kernel
theorem d_O_isInvalid_62 : decode b_O_isInvalid 62 = .ok (.iconst 1, 1) := by decide +kernel
theorem d_O_isInvalid_63 : decode b_O_isInvalid 63 = .ok (.goto 4, 3) := by decide +kernel
theorem d_O_isInvalid_55 : decode b_O_isInvalid 55 = .ok (.aload_n 0, 1) := by decide +kernel
theorem d_O_isInvalid_56 : decode b_O_isInvalid 56 = .ok (.invokevirtual 133, 3) := by decide +kernel
theorem d_O_isInvalid_59 : decode b_O_isInvalid 59 = .ok (.ifCond .eq 7, 3) := by decide +kernel
theorem d_O_isInvalid_6 : decode b_O_isInvalid 6 = .ok (.aload_n 0, 1) := by decide +kernel
theorem d_O_isInvalid_7 : decode b_O_isInvalid 7 = .ok (.invokevirtual 158, 3) := by decide +kernel
theorem d_O_isInvalid_10 : decode b_O_isInvalid 10 = .ok (.ireturn, 1) := by decide +kernel
set_option maxHeartbeats 4000000 in
set_option maxRecDepth 100000 in
theorem c_O_isInvalid (l : Launch) (dC : Nat → ClassId) (dI : Nat → Nat → Nat) (aO : Nat) (a1 : Nat) (a2 : Nat) (aT : Nat) (aF : Nat) (a3 : Nat) (a4 : Nat) (a5 : Nat) (sz : Nat) (cw : Int32) (ts : Int32) (n1 : Bool) (p1 : Int32) (f1 : Int64) (n2 : Bool) (p2 : Int32) (f2 : Int64) (iop : Int32) : Met l y_O_isInvalid w_O_isInvalid ({ frames := 2, cells := 0, slots := 0, locals := 40 }) (cPc (dC, dI) [] [.ref aO, .int iop] [(aO, .inr (0, [.ref aT, .ref aF, .int cw, .int ts, .ref a1, .ref a2, .ref a3, .ref a4, .ref a5])), (a1, .inr (1, [.int (b2i n1), .int p1, .long f1])), (a2, .inr (1, [.int (b2i n2), .int p2, .long f2]))] sz) (va_Qi (fun (r : Int32) (_ : Unit) => r = b2i ((g_O_isInvalid cw n1 p1 f1 n2 p2 f2 iop))) (fun _ t => va_P (dC, dI) classes [(aO, .inr (0, [.ref aT, .ref aF, .int cw, .int ts, .ref a1, .ref a2, .ref a3, .ref a4, .ref a5])), (a1, .inr (1, [.int (b2i n1), .int p1, .long f1])), (a2, .inr (1, [.int (b2i n2), .int p2, .long f2]))] t.heap ∧ va_D (va_A [(aO, .inr (0, [.ref aT, .ref aF, .int cw, .int ts, .ref a1, .ref a2, .ref a3, .ref a4, .ref a5])), (a1, .inr (1, [.int (b2i n1), .int p1, .long f1])), (a2, .inr (1, [.int (b2i n2), .int p2, .long f2]))] sz) [(aO, .inr (0, [.ref aT, .ref aF, .int cw, .int ts, .ref a1, .ref a2, .ref a3, .ref a4, .ref a5])), (a1, .inr (1, [.int (b2i n1), .int p1, .long f1])), (a2, .inr (1, [.int (b2i n2), .int p2, .long f2]))]) (va_A [(aO, .inr (0, [.ref aT, .ref aF, .int cw, .int ts, .ref a1, .ref a2, .ref a3, .ref a4, .ref a5])), (a1, .inr (1, [.int (b2i n1), .int p1, .long f1])), (a2, .inr (1, [.int (b2i n2), .int p2, .long f2]))] sz)) 0 0 (va_A [(aO, .inr (0, [.ref aT, .ref aF, .int cw, .int ts, .ref a1, .ref a2, .ref a3, .ref a4, .ref a5])), (a1, .inr (1, [.int (b2i n1), .int p1, .long f1])), (a2, .inr (1, [.int (b2i n2), .int p2, .long f2]))] sz) := by
  refine Met.ofW (cc := b_O_isInvalid) (maxL := 3) (ret := (some .boolean)) (by decide) rfl ?_
  intro p e s m args below meth c s₁ B hml hv
  obtain ⟨rfl, hsz, hP, hK, hD0, hnw⟩ := hv
  have hx := B.exec
  have hb := B.bytes
  have hr := B.returns
  have hts := atoms_spec (ws := w_O_isInvalid) B.pre
  have htA : ∀ w ∈ wAll, w.before _ s = true := fun w h => hts w (List.mem_cons_of_mem _ h)
  have hown : s.vm.findClass R_O = some m.cls := findClass_of_methodNamed B.named
  have hlocks := B.notSynchronized
  subst hsz
  have hD := hD0.self (sz := s.heap.size)
  generalize hAe : va_A [(aO, .inr (0, [.ref aT, .ref aF, .int cw, .int ts, .ref a1, .ref a2, .ref a3, .ref a4, .ref a5])), (a1, .inr (1, [.int (b2i n1), .int p1, .long f1])), (a2, .inr (1, [.int (b2i n2), .int p2, .long f2]))] s.heap.size = A at hD ⊢
  have hA : ∀ q : Nat, s.heap.size ≤ q → A q := fun q h => by rw [← hAe]; exact Or.inr h
  have hS : va_S A s.heap s.heap [] := va_S.rf
  have hP : va_P (dC, dI) classes [(aO, .inr (0, [.ref aT, .ref aF, .int cw, .int ts, .ref a1, .ref a2, .ref a3, .ref a4, .ref a5])), (a1, .inr (1, [.int (b2i n1), .int p1, .long f1])), (a2, .inr (1, [.int (b2i n2), .int p2, .long f2]))] s.heap := hP
  obtain ⟨H, eH⟩ : ∃ z, z = s.heap := ⟨_, rfl⟩
  rw [← eH] at hP
  have hS : va_S A s.heap H [] := by rw [eH]; exact hS
  rw [← eH]
  generalize ([] : List Loc) = locs at hS ⊢
  have hl := lv_entry ([.ref aO, .int iop]) (n := 3) (Nat.le_of_ble_eq_true rfl)
  rw [lg_entry_eq]
  generalize (lg_sl ([.ref aO, .int iop]) ++ List.replicate (3 - (lg_sl ([.ref aO, .int iop])).length) Slot.unset).toArray = ls at hl ⊢
  have hl : lv_has ls 3 [(0, .ref aO), (1, .int iop)] := hl
  refine lv_iload_n hx hb d_O_isInvalid_0 rfl (lv_at hl 1 rfl) ?_
  refine lv_bipush (v := 6) hx hb d_O_isInvalid_1 (by decide) ?_
  refine lv_icmp_ne (tgt := 11) hx hb d_O_isInvalid_3 (by decide) (fun c_3 => ?_) (fun c_3 => ?_)
  · skip
    refine lv_aload_n hx hb d_O_isInvalid_11 rfl (lv_at hl 0 rfl) ?_
    refine va_get (D := (dC, dI)) (ci := 0) (v := .ref a1) (C := R_O) (T := F_O) (N := 9) hx hb htA in_O hown hK hP 0 rfl rfl 4 (by decide) (htA _ k_104) (fun _ h9 => h9) rfl d_O_isInvalid_12 ?_
    have hPc := hP.sub (ws' := [(a1, .inr (1, [.int (b2i n1), .int p1, .long f1]))]) [1] rfl
    have hDc := hD.sub (ws' := [(a1, .inr (1, [.int (b2i n1), .int p1, .long f1]))]) [1] (by decide) rfl
    have hKc := hK.sub (tys' := []) [] rfl
    have hFc := va_free (wc := [(a1, .inr (1, [.int (b2i n1), .int p1, .long f1]))]) hD hS hA [1] rfl
    refine cc_i (va_runVN (As := []) (rest := []) ⟨hx, hb, hml, hown, htA⟩ (c_R_isInfinite l dC dI a1 H.size n1 p1 f1) ⟨va_cnB 0 htA (gi_code k_28) rfl rfl rfl (hnw _ n_7) (htA _ k_20) (by decide +kernel) ⟨Nat.le_of_ble_eq_true rfl, Nat.le_of_ble_eq_true rfl⟩, htA _ k_109, htA _ k_110⟩ (pre_V hnw hPc hKc hDc (ci := 1) (q0 := 0) rfl rfl) rfl rfl hl.1 rfl (lv_room (Nat.le_of_ble_eq_true rfl)) d_O_isInvalid_15 ⟨Nat.le_of_ble_eq_true rfl, Nat.le_of_ble_eq_true rfl⟩) hS hFc hP hD [1] [0, 2] (wr := [(aO, .inr (0, [.ref aT, .ref aF, .int cw, .int ts, .ref a1, .ref a2, .ref a3, .ref a4, .ref a5])), (a2, .inr (1, [.int (b2i n2), .int p2, .long f2]))]) rfl rfl (by decide) (by decide) (fun H locs hP hD hS => ?_)
    have hP : va_P (dC, dI) classes [(aO, .inr (0, [.ref aT, .ref aF, .int cw, .int ts, .ref a1, .ref a2, .ref a3, .ref a4, .ref a5])), (a2, .inr (1, [.int (b2i n2), .int p2, .long f2])), (a1, .inr (1, [.int (b2i n1), .int p1, .long f1]))] H := hP
    have hD : va_D A [(aO, .inr (0, [.ref aT, .ref aF, .int cw, .int ts, .ref a1, .ref a2, .ref a3, .ref a4, .ref a5])), (a2, .inr (1, [.int (b2i n2), .int p2, .long f2])), (a1, .inr (1, [.int (b2i n1), .int p1, .long f1]))] := hD
    refine lv_if_eq (tgt := 35) hx hb d_O_isInvalid_18 (by decide) (fun c_18 => ?_) (fun c_18 => ?_)
    · skip
      have c_18 : ¬ (g_R_isInfinite p1 f1) = true := b2i_z c_18
      refine lv_iconst (v := 0) hx hb d_O_isInvalid_35 (by decide) ?_
      refine lv_istore_n (lv' := [(2, .int 0), (0, .ref aO), (1, .int iop)]) hx hb d_O_isInvalid_36 rfl hl (by decide) rfl (fun ls hl => ?_)
      refine lv_iload_n hx hb d_O_isInvalid_37 rfl (lv_at hl 2 rfl) ?_
      have hPc := hP.sub (ws' := []) [] rfl
      have hDc := hD.sub (ws' := []) [] (by decide) rfl
      have hKc := hK.sub (tys' := []) [] rfl
      have hFc := va_free (wc := []) hD hS hA [] rfl
      refine cc_i (va_runS (As := [.int iop]) (rest := []) ⟨hx, hb, hml, hown, htA⟩ (c_O_isSum l dC dI H.size iop) (va_cwS 1 htA (gi_S k_117 k_118 k_90 (gi_code k_93)) rfl rfl rfl (by decide +kernel) ⟨Nat.le_of_ble_eq_true rfl, Nat.le_of_ble_eq_true rfl⟩) (pre_S hnw hPc hKc hDc) rfl rfl hl.1 rfl (lv_room (Nat.le_of_ble_eq_true rfl)) d_O_isInvalid_38 ⟨Nat.le_of_ble_eq_true rfl, Nat.le_of_ble_eq_true rfl⟩) hS hFc hP hD [] [0, 1, 2] (wr := [(aO, .inr (0, [.ref aT, .ref aF, .int cw, .int ts, .ref a1, .ref a2, .ref a3, .ref a4, .ref a5])), (a2, .inr (1, [.int (b2i n2), .int p2, .long f2])), (a1, .inr (1, [.int (b2i n1), .int p1, .long f1]))]) rfl rfl (by decide) (by decide) (fun H locs hP hD hS => ?_)
      have hP : va_P (dC, dI) classes [(aO, .inr (0, [.ref aT, .ref aF, .int cw, .int ts, .ref a1, .ref a2, .ref a3, .ref a4, .ref a5])), (a2, .inr (1, [.int (b2i n2), .int p2, .long f2])), (a1, .inr (1, [.int (b2i n1), .int p1, .long f1]))] H := hP
      have hD : va_D A [(aO, .inr (0, [.ref aT, .ref aF, .int cw, .int ts, .ref a1, .ref a2, .ref a3, .ref a4, .ref a5])), (a2, .inr (1, [.int (b2i n2), .int p2, .long f2])), (a1, .inr (1, [.int (b2i n1), .int p1, .long f1]))] := hD
      refine lv_if_eq (tgt := 68) hx hb d_O_isInvalid_41 (by decide) (fun c_41 => ?_) (fun c_41 => ?_)
      · skip
        have c_41 : ¬ (g_O_isSum iop) = true := b2i_z c_41
        refine lv_iload_n hx hb d_O_isInvalid_68 rfl (lv_at hl 2 rfl) ?_
        refine lv_iconst (v := 3) hx hb d_O_isInvalid_69 (by decide) ?_
        refine lv_icmp_ne (tgt := 119) hx hb d_O_isInvalid_70 (by decide) (fun c_70 => ?_) (fun c_70 => ?_)
        · skip
          refine lv_iload_n hx hb d_O_isInvalid_119 rfl (lv_at hl 0 rfl) ?_
          refine lv_if_ne (tgt := 153) hx hb d_O_isInvalid_120 (by decide) (fun c_120 => absurd c_120 (by decide)) (fun _ => ?_)
          refine lv_aload_n hx hb d_O_isInvalid_123 rfl (lv_at hl 1 rfl) ?_
          refine va_get (D := (dC, dI)) (ci := 0) (v := .ref a1) (C := R_O) (T := F_O) (N := 9) hx hb htA in_O hown hK hP 0 rfl rfl 4 (by decide) (htA _ k_104) (fun _ h9 => h9) rfl d_O_isInvalid_124 ?_
          have hPc := hP.sub (ws' := [(a1, .inr (1, [.int (b2i n1), .int p1, .long f1]))]) [2] rfl
          have hDc := hD.sub (ws' := [(a1, .inr (1, [.int (b2i n1), .int p1, .long f1]))]) [2] (by decide) rfl
          have hKc := hK.sub (tys' := []) [] rfl
          have hFc := va_free (wc := [(a1, .inr (1, [.int (b2i n1), .int p1, .long f1]))]) hD hS hA [2] rfl
          refine cc_i (va_runVN (As := []) (rest := []) ⟨hx, hb, hml, hown, htA⟩ (c_R_isNothing l dC dI a1 H.size n1 p1 f1) ⟨va_cnB 0 htA (gi_code k_27) rfl rfl rfl (hnw _ n_8) (htA _ k_20) (by decide +kernel) ⟨Nat.le_of_ble_eq_true rfl, Nat.le_of_ble_eq_true rfl⟩, htA _ k_114, htA _ k_115⟩ (pre_V hnw hPc hKc hDc (ci := 1) (q0 := 0) rfl rfl) rfl rfl hl.1 rfl (lv_room (Nat.le_of_ble_eq_true rfl)) d_O_isInvalid_127 ⟨Nat.le_of_ble_eq_true rfl, Nat.le_of_ble_eq_true rfl⟩) hS hFc hP hD [2] [0, 1] (wr := [(aO, .inr (0, [.ref aT, .ref aF, .int cw, .int ts, .ref a1, .ref a2, .ref a3, .ref a4, .ref a5])), (a2, .inr (1, [.int (b2i n2), .int p2, .long f2]))]) rfl rfl (by decide) (by decide) (fun H locs hP hD hS => ?_)
          have hP : va_P (dC, dI) classes [(aO, .inr (0, [.ref aT, .ref aF, .int cw, .int ts, .ref a1, .ref a2, .ref a3, .ref a4, .ref a5])), (a2, .inr (1, [.int (b2i n2), .int p2, .long f2])), (a1, .inr (1, [.int (b2i n1), .int p1, .long f1]))] H := hP
          have hD : va_D A [(aO, .inr (0, [.ref aT, .ref aF, .int cw, .int ts, .ref a1, .ref a2, .ref a3, .ref a4, .ref a5])), (a2, .inr (1, [.int (b2i n2), .int p2, .long f2])), (a1, .inr (1, [.int (b2i n1), .int p1, .long f1]))] := hD
          refine lv_if_eq (tgt := 143) hx hb d_O_isInvalid_130 (by decide) (fun c_130 => ?_) (fun c_130 => ?_)
          · skip
            have c_130 : ¬ (g_R_isNothing p1 f1) = true := b2i_z c_130
            refine lv_aload_n hx hb d_O_isInvalid_143 rfl (lv_at hl 1 rfl) ?_
            refine va_get (D := (dC, dI)) (ci := 0) (v := .ref a2) (C := R_O) (T := F_O) (N := 9) hx hb htA in_O hown hK hP 0 rfl rfl 5 (by decide) (htA _ k_105) (fun _ h9 => h9) rfl d_O_isInvalid_144 ?_
            have hPc := hP.sub (ws' := [(a2, .inr (1, [.int (b2i n2), .int p2, .long f2]))]) [1] rfl
            have hDc := hD.sub (ws' := [(a2, .inr (1, [.int (b2i n2), .int p2, .long f2]))]) [1] (by decide) rfl
            have hKc := hK.sub (tys' := []) [] rfl
            have hFc := va_free (wc := [(a2, .inr (1, [.int (b2i n2), .int p2, .long f2]))]) hD hS hA [1] rfl
            refine cc_i (va_runVN (As := []) (rest := []) ⟨hx, hb, hml, hown, htA⟩ (c_R_isUnnormalOfSize l dC dI a2 H.size n2 p2 f2) ⟨va_cnB 0 htA (gi_code k_26) rfl rfl rfl (hnw _ n_6) (htA _ k_20) (by decide +kernel) ⟨Nat.le_of_ble_eq_true rfl, Nat.le_of_ble_eq_true rfl⟩, htA _ k_107, htA _ k_108⟩ (pre_V hnw hPc hKc hDc (ci := 1) (q0 := 0) rfl rfl) rfl rfl hl.1 rfl (lv_room (Nat.le_of_ble_eq_true rfl)) d_O_isInvalid_147 ⟨Nat.le_of_ble_eq_true rfl, Nat.le_of_ble_eq_true rfl⟩) hS hFc hP hD [1] [0, 2] (wr := [(aO, .inr (0, [.ref aT, .ref aF, .int cw, .int ts, .ref a1, .ref a2, .ref a3, .ref a4, .ref a5])), (a1, .inr (1, [.int (b2i n1), .int p1, .long f1]))]) rfl rfl (by decide) (by decide) (fun H locs hP hD hS => ?_)
            have hP : va_P (dC, dI) classes [(aO, .inr (0, [.ref aT, .ref aF, .int cw, .int ts, .ref a1, .ref a2, .ref a3, .ref a4, .ref a5])), (a1, .inr (1, [.int (b2i n1), .int p1, .long f1])), (a2, .inr (1, [.int (b2i n2), .int p2, .long f2]))] H := hP
            have hD : va_D A [(aO, .inr (0, [.ref aT, .ref aF, .int cw, .int ts, .ref a1, .ref a2, .ref a3, .ref a4, .ref a5])), (a1, .inr (1, [.int (b2i n1), .int p1, .long f1])), (a2, .inr (1, [.int (b2i n2), .int p2, .long f2]))] := hD
            refine lv_if_eq (tgt := 157) hx hb d_O_isInvalid_150 (by decide) (fun c_150 => ?_) (fun c_150 => ?_)
            · skip
              have c_150 : ¬ (g_R_isUnnormalOfSize p2 f2) = true := b2i_z c_150
              refine lv_iconst (v := 0) hx hb d_O_isInvalid_157 (by decide) ?_
              have hE : g_O_isInvalid cw n1 p1 f1 n2 p2 f2 iop = (false) := by clear hP hD hl hS; unfold g_O_isInvalid; (try dsimp only); rw [if_neg c_3, if_neg c_18, if_neg c_41, if_neg c_70, if_neg c_130, if_neg c_150]
              have hP9 : va_P (dC, dI) classes [(aO, .inr (0, [.ref aT, .ref aF, .int cw, .int ts, .ref a1, .ref a2, .ref a3, .ref a4, .ref a5])), (a1, .inr (1, [.int (b2i n1), .int p1, .long f1])), (a2, .inr (1, [.int (b2i n2), .int p2, .long f2]))] H := by exact hP.sub [0, 1, 2] rfl
              have hD9 : va_D A [(aO, .inr (0, [.ref aT, .ref aF, .int cw, .int ts, .ref a1, .ref a2, .ref a3, .ref a4, .ref a5])), (a1, .inr (1, [.int (b2i n1), .int p1, .long f1])), (a2, .inr (1, [.int (b2i n2), .int p2, .long f2]))] := by exact hD.sub [0, 1, 2] (by decide) rfl
              exact W.zret (v := 0) hx hb hr (by first | exact nar_b2i _ | rfl) (fun t ht hW => ⟨⟨0, (), rfl, by rw [hE]; rfl, by rw [ht]; exact hP9, hD9⟩, hS.F ht⟩) hS.2.2 d_O_isInvalid_158
            · skip
              have c_150 : (g_R_isUnnormalOfSize p2 f2) = true := b2i_nz c_150
              refine lv_iconst (v := 1) hx hb d_O_isInvalid_153 (by decide) ?_
              refine lv_goto (tgt := 158) hx hb d_O_isInvalid_154 (by decide) ?_
              have hE : g_O_isInvalid cw n1 p1 f1 n2 p2 f2 iop = (true) := by clear hP hD hl hS; unfold g_O_isInvalid; (try dsimp only); rw [if_neg c_3, if_neg c_18, if_neg c_41, if_neg c_70, if_neg c_130, if_pos c_150]
              have hP9 : va_P (dC, dI) classes [(aO, .inr (0, [.ref aT, .ref aF, .int cw, .int ts, .ref a1, .ref a2, .ref a3, .ref a4, .ref a5])), (a1, .inr (1, [.int (b2i n1), .int p1, .long f1])), (a2, .inr (1, [.int (b2i n2), .int p2, .long f2]))] H := by exact hP.sub [0, 1, 2] rfl
              have hD9 : va_D A [(aO, .inr (0, [.ref aT, .ref aF, .int cw, .int ts, .ref a1, .ref a2, .ref a3, .ref a4, .ref a5])), (a1, .inr (1, [.int (b2i n1), .int p1, .long f1])), (a2, .inr (1, [.int (b2i n2), .int p2, .long f2]))] := by exact hD.sub [0, 1, 2] (by decide) rfl
              exact W.zret (v := 1) hx hb hr (by first | exact nar_b2i _ | rfl) (fun t ht hW => ⟨⟨1, (), rfl, by rw [hE]; rfl, by rw [ht]; exact hP9, hD9⟩, hS.F ht⟩) hS.2.2 d_O_isInvalid_158
          · skip
            have c_130 : (g_R_isNothing p1 f1) = true := b2i_nz c_130
            refine lv_aload_n hx hb d_O_isInvalid_133 rfl (lv_at hl 1 rfl) ?_
            refine va_get (D := (dC, dI)) (ci := 0) (v := .ref a2) (C := R_O) (T := F_O) (N := 9) hx hb htA in_O hown hK hP 0 rfl rfl 5 (by decide) (htA _ k_105) (fun _ h9 => h9) rfl d_O_isInvalid_134 ?_
            have hPc := hP.sub (ws' := [(a2, .inr (1, [.int (b2i n2), .int p2, .long f2]))]) [1] rfl
            have hDc := hD.sub (ws' := [(a2, .inr (1, [.int (b2i n2), .int p2, .long f2]))]) [1] (by decide) rfl
            have hKc := hK.sub (tys' := []) [] rfl
            have hFc := va_free (wc := [(a2, .inr (1, [.int (b2i n2), .int p2, .long f2]))]) hD hS hA [1] rfl
            refine cc_i (va_runVN (As := []) (rest := []) ⟨hx, hb, hml, hown, htA⟩ (c_R_isNothing l dC dI a2 H.size n2 p2 f2) ⟨va_cnB 0 htA (gi_code k_27) rfl rfl rfl (hnw _ n_8) (htA _ k_20) (by decide +kernel) ⟨Nat.le_of_ble_eq_true rfl, Nat.le_of_ble_eq_true rfl⟩, htA _ k_114, htA _ k_115⟩ (pre_V hnw hPc hKc hDc (ci := 1) (q0 := 0) rfl rfl) rfl rfl hl.1 rfl (lv_room (Nat.le_of_ble_eq_true rfl)) d_O_isInvalid_137 ⟨Nat.le_of_ble_eq_true rfl, Nat.le_of_ble_eq_true rfl⟩) hS hFc hP hD [1] [0, 2] (wr := [(aO, .inr (0, [.ref aT, .ref aF, .int cw, .int ts, .ref a1, .ref a2, .ref a3, .ref a4, .ref a5])), (a1, .inr (1, [.int (b2i n1), .int p1, .long f1]))]) rfl rfl (by decide) (by decide) (fun H locs hP hD hS => ?_)
            have hP : va_P (dC, dI) classes [(aO, .inr (0, [.ref aT, .ref aF, .int cw, .int ts, .ref a1, .ref a2, .ref a3, .ref a4, .ref a5])), (a1, .inr (1, [.int (b2i n1), .int p1, .long f1])), (a2, .inr (1, [.int (b2i n2), .int p2, .long f2]))] H := hP
            have hD : va_D A [(aO, .inr (0, [.ref aT, .ref aF, .int cw, .int ts, .ref a1, .ref a2, .ref a3, .ref a4, .ref a5])), (a1, .inr (1, [.int (b2i n1), .int p1, .long f1])), (a2, .inr (1, [.int (b2i n2), .int p2, .long f2]))] := hD
            refine lv_if_ne (tgt := 153) hx hb d_O_isInvalid_140 (by decide) (fun c_140 => ?_) (fun c_140 => ?_)
            · skip
              have c_140 : (g_R_isNothing p2 f2) = true := b2i_nz c_140
              refine lv_iconst (v := 1) hx hb d_O_isInvalid_153 (by decide) ?_
              refine lv_goto (tgt := 158) hx hb d_O_isInvalid_154 (by decide) ?_
              have hE : g_O_isInvalid cw n1 p1 f1 n2 p2 f2 iop = (true) := by clear hP hD hl hS; unfold g_O_isInvalid; (try dsimp only); rw [if_neg c_3, if_neg c_18, if_neg c_41, if_neg c_70, if_pos c_130, if_pos c_140]
              have hP9 : va_P (dC, dI) classes [(aO, .inr (0, [.ref aT, .ref aF, .int cw, .int ts, .ref a1, .ref a2, .ref a3, .ref a4, .ref a5])), (a1, .inr (1, [.int (b2i n1), .int p1, .long f1])), (a2, .inr (1, [.int (b2i n2), .int p2, .long f2]))] H := by exact hP.sub [0, 1, 2] rfl
              have hD9 : va_D A [(aO, .inr (0, [.ref aT, .ref aF, .int cw, .int ts, .ref a1, .ref a2, .ref a3, .ref a4, .ref a5])), (a1, .inr (1, [.int (b2i n1), .int p1, .long f1])), (a2, .inr (1, [.int (b2i n2), .int p2, .long f2]))] := by exact hD.sub [0, 1, 2] (by decide) rfl
              exact W.zret (v := 1) hx hb hr (by first | exact nar_b2i _ | rfl) (fun t ht hW => ⟨⟨1, (), rfl, by rw [hE]; rfl, by rw [ht]; exact hP9, hD9⟩, hS.F ht⟩) hS.2.2 d_O_isInvalid_158
            · skip
              have c_140 : ¬ (g_R_isNothing p2 f2) = true := b2i_z c_140
              refine lv_aload_n hx hb d_O_isInvalid_143 rfl (lv_at hl 1 rfl) ?_
              refine va_get (D := (dC, dI)) (ci := 0) (v := .ref a2) (C := R_O) (T := F_O) (N := 9) hx hb htA in_O hown hK hP 0 rfl rfl 5 (by decide) (htA _ k_105) (fun _ h9 => h9) rfl d_O_isInvalid_144 ?_
              have hPc := hP.sub (ws' := [(a2, .inr (1, [.int (b2i n2), .int p2, .long f2]))]) [2] rfl
              have hDc := hD.sub (ws' := [(a2, .inr (1, [.int (b2i n2), .int p2, .long f2]))]) [2] (by decide) rfl
              have hKc := hK.sub (tys' := []) [] rfl
              have hFc := va_free (wc := [(a2, .inr (1, [.int (b2i n2), .int p2, .long f2]))]) hD hS hA [2] rfl
              refine cc_i (va_runVN (As := []) (rest := []) ⟨hx, hb, hml, hown, htA⟩ (c_R_isUnnormalOfSize l dC dI a2 H.size n2 p2 f2) ⟨va_cnB 0 htA (gi_code k_26) rfl rfl rfl (hnw _ n_6) (htA _ k_20) (by decide +kernel) ⟨Nat.le_of_ble_eq_true rfl, Nat.le_of_ble_eq_true rfl⟩, htA _ k_107, htA _ k_108⟩ (pre_V hnw hPc hKc hDc (ci := 1) (q0 := 0) rfl rfl) rfl rfl hl.1 rfl (lv_room (Nat.le_of_ble_eq_true rfl)) d_O_isInvalid_147 ⟨Nat.le_of_ble_eq_true rfl, Nat.le_of_ble_eq_true rfl⟩) hS hFc hP hD [2] [0, 1] (wr := [(aO, .inr (0, [.ref aT, .ref aF, .int cw, .int ts, .ref a1, .ref a2, .ref a3, .ref a4, .ref a5])), (a1, .inr (1, [.int (b2i n1), .int p1, .long f1]))]) rfl rfl (by decide) (by decide) (fun H locs hP hD hS => ?_)
              have hP : va_P (dC, dI) classes [(aO, .inr (0, [.ref aT, .ref aF, .int cw, .int ts, .ref a1, .ref a2, .ref a3, .ref a4, .ref a5])), (a1, .inr (1, [.int (b2i n1), .int p1, .long f1])), (a2, .inr (1, [.int (b2i n2), .int p2, .long f2]))] H := hP
              have hD : va_D A [(aO, .inr (0, [.ref aT, .ref aF, .int cw, .int ts, .ref a1, .ref a2, .ref a3, .ref a4, .ref a5])), (a1, .inr (1, [.int (b2i n1), .int p1, .long f1])), (a2, .inr (1, [.int (b2i n2), .int p2, .long f2]))] := hD
              refine lv_if_eq (tgt := 157) hx hb d_O_isInvalid_150 (by decide) (fun c_150 => ?_) (fun c_150 => ?_)
              · skip
                have c_150 : ¬ (g_R_isUnnormalOfSize p2 f2) = true := b2i_z c_150
                refine lv_iconst (v := 0) hx hb d_O_isInvalid_157 (by decide) ?_
                have hE : g_O_isInvalid cw n1 p1 f1 n2 p2 f2 iop = (false) := by clear hP hD hl hS; unfold g_O_isInvalid; (try dsimp only); rw [if_neg c_3, if_neg c_18, if_neg c_41, if_neg c_70, if_pos c_130, if_neg c_140, if_neg c_150]
                have hP9 : va_P (dC, dI) classes [(aO, .inr (0, [.ref aT, .ref aF, .int cw, .int ts, .ref a1, .ref a2, .ref a3, .ref a4, .ref a5])), (a1, .inr (1, [.int (b2i n1), .int p1, .long f1])), (a2, .inr (1, [.int (b2i n2), .int p2, .long f2]))] H := by exact hP.sub [0, 1, 2] rfl
                have hD9 : va_D A [(aO, .inr (0, [.ref aT, .ref aF, .int cw, .int ts, .ref a1, .ref a2, .ref a3, .ref a4, .ref a5])), (a1, .inr (1, [.int (b2i n1), .int p1, .long f1])), (a2, .inr (1, [.int (b2i n2), .int p2, .long f2]))] := by exact hD.sub [0, 1, 2] (by decide) rfl
                exact W.zret (v := 0) hx hb hr (by first | exact nar_b2i _ | rfl) (fun t ht hW => ⟨⟨0, (), rfl, by rw [hE]; rfl, by rw [ht]; exact hP9, hD9⟩, hS.F ht⟩) hS.2.2 d_O_isInvalid_158
              · skip
                have c_150 : (g_R_isUnnormalOfSize p2 f2) = true := b2i_nz c_150
                refine lv_iconst (v := 1) hx hb d_O_isInvalid_153 (by decide) ?_
                refine lv_goto (tgt := 158) hx hb d_O_isInvalid_154 (by decide) ?_
                have hE : g_O_isInvalid cw n1 p1 f1 n2 p2 f2 iop = (true) := by clear hP hD hl hS; unfold g_O_isInvalid; (try dsimp only); rw [if_neg c_3, if_neg c_18, if_neg c_41, if_neg c_70, if_pos c_130, if_neg c_140, if_pos c_150]
                have hP9 : va_P (dC, dI) classes [(aO, .inr (0, [.ref aT, .ref aF, .int cw, .int ts, .ref a1, .ref a2, .ref a3, .ref a4, .ref a5])), (a1, .inr (1, [.int (b2i n1), .int p1, .long f1])), (a2, .inr (1, [.int (b2i n2), .int p2, .long f2]))] H := by exact hP.sub [0, 1, 2] rfl
                have hD9 : va_D A [(aO, .inr (0, [.ref aT, .ref aF, .int cw, .int ts, .ref a1, .ref a2, .ref a3, .ref a4, .ref a5])), (a1, .inr (1, [.int (b2i n1), .int p1, .long f1])), (a2, .inr (1, [.int (b2i n2), .int p2, .long f2]))] := by exact hD.sub [0, 1, 2] (by decide) rfl
                exact W.zret (v := 1) hx hb hr (by first | exact nar_b2i _ | rfl) (fun t ht hW => ⟨⟨1, (), rfl, by rw [hE]; rfl, by rw [ht]; exact hP9, hD9⟩, hS.F ht⟩) hS.2.2 d_O_isInvalid_158
        · skip
          refine lv_aload_n hx hb d_O_isInvalid_73 rfl (lv_at hl 1 rfl) ?_
          refine va_get (D := (dC, dI)) (ci := 0) (v := .ref a1) (C := R_O) (T := F_O) (N := 9) hx hb htA in_O hown hK hP 0 rfl rfl 4 (by decide) (htA _ k_104) (fun _ h9 => h9) rfl d_O_isInvalid_74 ?_
          have hPc := hP.sub (ws' := [(a1, .inr (1, [.int (b2i n1), .int p1, .long f1]))]) [2] rfl
          have hDc := hD.sub (ws' := [(a1, .inr (1, [.int (b2i n1), .int p1, .long f1]))]) [2] (by decide) rfl
          have hKc := hK.sub (tys' := []) [] rfl
          have hFc := va_free (wc := [(a1, .inr (1, [.int (b2i n1), .int p1, .long f1]))]) hD hS hA [2] rfl
          refine cc_i (va_runVN (As := []) (rest := []) ⟨hx, hb, hml, hown, htA⟩ (c_R_isInfinite l dC dI a1 H.size n1 p1 f1) ⟨va_cnB 0 htA (gi_code k_28) rfl rfl rfl (hnw _ n_7) (htA _ k_20) (by decide +kernel) ⟨Nat.le_of_ble_eq_true rfl, Nat.le_of_ble_eq_true rfl⟩, htA _ k_109, htA _ k_110⟩ (pre_V hnw hPc hKc hDc (ci := 1) (q0 := 0) rfl rfl) rfl rfl hl.1 rfl (lv_room (Nat.le_of_ble_eq_true rfl)) d_O_isInvalid_77 ⟨Nat.le_of_ble_eq_true rfl, Nat.le_of_ble_eq_true rfl⟩) hS hFc hP hD [2] [0, 1] (wr := [(aO, .inr (0, [.ref aT, .ref aF, .int cw, .int ts, .ref a1, .ref a2, .ref a3, .ref a4, .ref a5])), (a2, .inr (1, [.int (b2i n2), .int p2, .long f2]))]) rfl rfl (by decide) (by decide) (fun H locs hP hD hS => ?_)
          have hP : va_P (dC, dI) classes [(aO, .inr (0, [.ref aT, .ref aF, .int cw, .int ts, .ref a1, .ref a2, .ref a3, .ref a4, .ref a5])), (a2, .inr (1, [.int (b2i n2), .int p2, .long f2])), (a1, .inr (1, [.int (b2i n1), .int p1, .long f1]))] H := hP
          have hD : va_D A [(aO, .inr (0, [.ref aT, .ref aF, .int cw, .int ts, .ref a1, .ref a2, .ref a3, .ref a4, .ref a5])), (a2, .inr (1, [.int (b2i n2), .int p2, .long f2])), (a1, .inr (1, [.int (b2i n1), .int p1, .long f1]))] := hD
          refine lv_if_eq (tgt := 93) hx hb d_O_isInvalid_80 (by decide) (fun c_80 => ?_) (fun c_80 => ?_)
          · skip
            have c_80 : ¬ (g_R_isInfinite p1 f1) = true := b2i_z c_80
            refine lv_aload_n hx hb d_O_isInvalid_93 rfl (lv_at hl 1 rfl) ?_
            refine va_get (D := (dC, dI)) (ci := 0) (v := .ref a1) (C := R_O) (T := F_O) (N := 9) hx hb htA in_O hown hK hP 0 rfl rfl 4 (by decide) (htA _ k_104) (fun _ h9 => h9) rfl d_O_isInvalid_94 ?_
            have hPc := hP.sub (ws' := [(a1, .inr (1, [.int (b2i n1), .int p1, .long f1]))]) [2] rfl
            have hDc := hD.sub (ws' := [(a1, .inr (1, [.int (b2i n1), .int p1, .long f1]))]) [2] (by decide) rfl
            have hKc := hK.sub (tys' := []) [] rfl
            have hFc := va_free (wc := [(a1, .inr (1, [.int (b2i n1), .int p1, .long f1]))]) hD hS hA [2] rfl
            refine cc_i (va_runVN (As := []) (rest := []) ⟨hx, hb, hml, hown, htA⟩ (c_R_isNothing l dC dI a1 H.size n1 p1 f1) ⟨va_cnB 0 htA (gi_code k_27) rfl rfl rfl (hnw _ n_8) (htA _ k_20) (by decide +kernel) ⟨Nat.le_of_ble_eq_true rfl, Nat.le_of_ble_eq_true rfl⟩, htA _ k_114, htA _ k_115⟩ (pre_V hnw hPc hKc hDc (ci := 1) (q0 := 0) rfl rfl) rfl rfl hl.1 rfl (lv_room (Nat.le_of_ble_eq_true rfl)) d_O_isInvalid_97 ⟨Nat.le_of_ble_eq_true rfl, Nat.le_of_ble_eq_true rfl⟩) hS hFc hP hD [2] [0, 1] (wr := [(aO, .inr (0, [.ref aT, .ref aF, .int cw, .int ts, .ref a1, .ref a2, .ref a3, .ref a4, .ref a5])), (a2, .inr (1, [.int (b2i n2), .int p2, .long f2]))]) rfl rfl (by decide) (by decide) (fun H locs hP hD hS => ?_)
            have hP : va_P (dC, dI) classes [(aO, .inr (0, [.ref aT, .ref aF, .int cw, .int ts, .ref a1, .ref a2, .ref a3, .ref a4, .ref a5])), (a2, .inr (1, [.int (b2i n2), .int p2, .long f2])), (a1, .inr (1, [.int (b2i n1), .int p1, .long f1]))] H := hP
            have hD : va_D A [(aO, .inr (0, [.ref aT, .ref aF, .int cw, .int ts, .ref a1, .ref a2, .ref a3, .ref a4, .ref a5])), (a2, .inr (1, [.int (b2i n2), .int p2, .long f2])), (a1, .inr (1, [.int (b2i n1), .int p1, .long f1]))] := hD
            refine lv_if_eq (tgt := 117) hx hb d_O_isInvalid_100 (by decide) (fun c_100 => ?_) (fun c_100 => ?_)
            · skip
              have c_100 : ¬ (g_R_isNothing p1 f1) = true := b2i_z c_100
              refine lv_iconst (v := 0) hx hb d_O_isInvalid_117 (by decide) ?_
              have hE : g_O_isInvalid cw n1 p1 f1 n2 p2 f2 iop = (false) := by clear hP hD hl hS; unfold g_O_isInvalid; (try dsimp only); rw [if_neg c_3, if_neg c_18, if_neg c_41, if_pos c_70, if_neg c_80, if_neg c_100]
              have hP9 : va_P (dC, dI) classes [(aO, .inr (0, [.ref aT, .ref aF, .int cw, .int ts, .ref a1, .ref a2, .ref a3, .ref a4, .ref a5])), (a1, .inr (1, [.int (b2i n1), .int p1, .long f1])), (a2, .inr (1, [.int (b2i n2), .int p2, .long f2]))] H := by exact hP.sub [0, 2, 1] rfl
              have hD9 : va_D A [(aO, .inr (0, [.ref aT, .ref aF, .int cw, .int ts, .ref a1, .ref a2, .ref a3, .ref a4, .ref a5])), (a1, .inr (1, [.int (b2i n1), .int p1, .long f1])), (a2, .inr (1, [.int (b2i n2), .int p2, .long f2]))] := by exact hD.sub [0, 2, 1] (by decide) rfl
              exact W.zret (v := 0) hx hb hr (by first | exact nar_b2i _ | rfl) (fun t ht hW => ⟨⟨0, (), rfl, by rw [hE]; rfl, by rw [ht]; exact hP9, hD9⟩, hS.F ht⟩) hS.2.2 d_O_isInvalid_118
            · skip
              have c_100 : (g_R_isNothing p1 f1) = true := b2i_nz c_100
              refine lv_aload_n hx hb d_O_isInvalid_103 rfl (lv_at hl 1 rfl) ?_
              refine va_get (D := (dC, dI)) (ci := 0) (v := .ref a2) (C := R_O) (T := F_O) (N := 9) hx hb htA in_O hown hK hP 0 rfl rfl 5 (by decide) (htA _ k_105) (fun _ h9 => h9) rfl d_O_isInvalid_104 ?_
              have hPc := hP.sub (ws' := [(a2, .inr (1, [.int (b2i n2), .int p2, .long f2]))]) [1] rfl
              have hDc := hD.sub (ws' := [(a2, .inr (1, [.int (b2i n2), .int p2, .long f2]))]) [1] (by decide) rfl
              have hKc := hK.sub (tys' := []) [] rfl
              have hFc := va_free (wc := [(a2, .inr (1, [.int (b2i n2), .int p2, .long f2]))]) hD hS hA [1] rfl
              refine cc_i (va_runVN (As := []) (rest := []) ⟨hx, hb, hml, hown, htA⟩ (c_R_isInfinite l dC dI a2 H.size n2 p2 f2) ⟨va_cnB 0 htA (gi_code k_28) rfl rfl rfl (hnw _ n_7) (htA _ k_20) (by decide +kernel) ⟨Nat.le_of_ble_eq_true rfl, Nat.le_of_ble_eq_true rfl⟩, htA _ k_109, htA _ k_110⟩ (pre_V hnw hPc hKc hDc (ci := 1) (q0 := 0) rfl rfl) rfl rfl hl.1 rfl (lv_room (Nat.le_of_ble_eq_true rfl)) d_O_isInvalid_107 ⟨Nat.le_of_ble_eq_true rfl, Nat.le_of_ble_eq_true rfl⟩) hS hFc hP hD [1] [0, 2] (wr := [(aO, .inr (0, [.ref aT, .ref aF, .int cw, .int ts, .ref a1, .ref a2, .ref a3, .ref a4, .ref a5])), (a1, .inr (1, [.int (b2i n1), .int p1, .long f1]))]) rfl rfl (by decide) (by decide) (fun H locs hP hD hS => ?_)
              have hP : va_P (dC, dI) classes [(aO, .inr (0, [.ref aT, .ref aF, .int cw, .int ts, .ref a1, .ref a2, .ref a3, .ref a4, .ref a5])), (a1, .inr (1, [.int (b2i n1), .int p1, .long f1])), (a2, .inr (1, [.int (b2i n2), .int p2, .long f2]))] H := hP
              have hD : va_D A [(aO, .inr (0, [.ref aT, .ref aF, .int cw, .int ts, .ref a1, .ref a2, .ref a3, .ref a4, .ref a5])), (a1, .inr (1, [.int (b2i n1), .int p1, .long f1])), (a2, .inr (1, [.int (b2i n2), .int p2, .long f2]))] := hD
              refine lv_if_eq (tgt := 117) hx hb d_O_isInvalid_110 (by decide) (fun c_110 => ?_) (fun c_110 => ?_)
              · skip
                have c_110 : ¬ (g_R_isInfinite p2 f2) = true := b2i_z c_110
                refine lv_iconst (v := 0) hx hb d_O_isInvalid_117 (by decide) ?_
                have hE : g_O_isInvalid cw n1 p1 f1 n2 p2 f2 iop = (false) := by clear hP hD hl hS; unfold g_O_isInvalid; (try dsimp only); rw [if_neg c_3, if_neg c_18, if_neg c_41, if_pos c_70, if_neg c_80, if_pos c_100, if_neg c_110]
                have hP9 : va_P (dC, dI) classes [(aO, .inr (0, [.ref aT, .ref aF, .int cw, .int ts, .ref a1, .ref a2, .ref a3, .ref a4, .ref a5])), (a1, .inr (1, [.int (b2i n1), .int p1, .long f1])), (a2, .inr (1, [.int (b2i n2), .int p2, .long f2]))] H := by exact hP.sub [0, 1, 2] rfl
                have hD9 : va_D A [(aO, .inr (0, [.ref aT, .ref aF, .int cw, .int ts, .ref a1, .ref a2, .ref a3, .ref a4, .ref a5])), (a1, .inr (1, [.int (b2i n1), .int p1, .long f1])), (a2, .inr (1, [.int (b2i n2), .int p2, .long f2]))] := by exact hD.sub [0, 1, 2] (by decide) rfl
                exact W.zret (v := 0) hx hb hr (by first | exact nar_b2i _ | rfl) (fun t ht hW => ⟨⟨0, (), rfl, by rw [hE]; rfl, by rw [ht]; exact hP9, hD9⟩, hS.F ht⟩) hS.2.2 d_O_isInvalid_118
              · skip
                have c_110 : (g_R_isInfinite p2 f2) = true := b2i_nz c_110
                refine lv_iconst (v := 1) hx hb d_O_isInvalid_113 (by decide) ?_
                refine lv_goto (tgt := 118) hx hb d_O_isInvalid_114 (by decide) ?_
                have hE : g_O_isInvalid cw n1 p1 f1 n2 p2 f2 iop = (true) := by clear hP hD hl hS; unfold g_O_isInvalid; (try dsimp only); rw [if_neg c_3, if_neg c_18, if_neg c_41, if_pos c_70, if_neg c_80, if_pos c_100, if_pos c_110]
                have hP9 : va_P (dC, dI) classes [(aO, .inr (0, [.ref aT, .ref aF, .int cw, .int ts, .ref a1, .ref a2, .ref a3, .ref a4, .ref a5])), (a1, .inr (1, [.int (b2i n1), .int p1, .long f1])), (a2, .inr (1, [.int (b2i n2), .int p2, .long f2]))] H := by exact hP.sub [0, 1, 2] rfl
                have hD9 : va_D A [(aO, .inr (0, [.ref aT, .ref aF, .int cw, .int ts, .ref a1, .ref a2, .ref a3, .ref a4, .ref a5])), (a1, .inr (1, [.int (b2i n1), .int p1, .long f1])), (a2, .inr (1, [.int (b2i n2), .int p2, .long f2]))] := by exact hD.sub [0, 1, 2] (by decide) rfl
                exact W.zret (v := 1) hx hb hr (by first | exact nar_b2i _ | rfl) (fun t ht hW => ⟨⟨1, (), rfl, by rw [hE]; rfl, by rw [ht]; exact hP9, hD9⟩, hS.F ht⟩) hS.2.2 d_O_isInvalid_118
          · skip
            have c_80 : (g_R_isInfinite p1 f1) = true := b2i_nz c_80
            refine lv_aload_n hx hb d_O_isInvalid_83 rfl (lv_at hl 1 rfl) ?_
            refine va_get (D := (dC, dI)) (ci := 0) (v := .ref a2) (C := R_O) (T := F_O) (N := 9) hx hb htA in_O hown hK hP 0 rfl rfl 5 (by decide) (htA _ k_105) (fun _ h9 => h9) rfl d_O_isInvalid_84 ?_
            have hPc := hP.sub (ws' := [(a2, .inr (1, [.int (b2i n2), .int p2, .long f2]))]) [1] rfl
            have hDc := hD.sub (ws' := [(a2, .inr (1, [.int (b2i n2), .int p2, .long f2]))]) [1] (by decide) rfl
            have hKc := hK.sub (tys' := []) [] rfl
            have hFc := va_free (wc := [(a2, .inr (1, [.int (b2i n2), .int p2, .long f2]))]) hD hS hA [1] rfl
            refine cc_i (va_runVN (As := []) (rest := []) ⟨hx, hb, hml, hown, htA⟩ (c_R_isNothing l dC dI a2 H.size n2 p2 f2) ⟨va_cnB 0 htA (gi_code k_27) rfl rfl rfl (hnw _ n_8) (htA _ k_20) (by decide +kernel) ⟨Nat.le_of_ble_eq_true rfl, Nat.le_of_ble_eq_true rfl⟩, htA _ k_114, htA _ k_115⟩ (pre_V hnw hPc hKc hDc (ci := 1) (q0 := 0) rfl rfl) rfl rfl hl.1 rfl (lv_room (Nat.le_of_ble_eq_true rfl)) d_O_isInvalid_87 ⟨Nat.le_of_ble_eq_true rfl, Nat.le_of_ble_eq_true rfl⟩) hS hFc hP hD [1] [0, 2] (wr := [(aO, .inr (0, [.ref aT, .ref aF, .int cw, .int ts, .ref a1, .ref a2, .ref a3, .ref a4, .ref a5])), (a1, .inr (1, [.int (b2i n1), .int p1, .long f1]))]) rfl rfl (by decide) (by decide) (fun H locs hP hD hS => ?_)
            have hP : va_P (dC, dI) classes [(aO, .inr (0, [.ref aT, .ref aF, .int cw, .int ts, .ref a1, .ref a2, .ref a3, .ref a4, .ref a5])), (a1, .inr (1, [.int (b2i n1), .int p1, .long f1])), (a2, .inr (1, [.int (b2i n2), .int p2, .long f2]))] H := hP
            have hD : va_D A [(aO, .inr (0, [.ref aT, .ref aF, .int cw, .int ts, .ref a1, .ref a2, .ref a3, .ref a4, .ref a5])), (a1, .inr (1, [.int (b2i n1), .int p1, .long f1])), (a2, .inr (1, [.int (b2i n2), .int p2, .long f2]))] := hD
            refine lv_if_ne (tgt := 113) hx hb d_O_isInvalid_90 (by decide) (fun c_90 => ?_) (fun c_90 => ?_)
            · skip
              have c_90 : (g_R_isNothing p2 f2) = true := b2i_nz c_90
              refine lv_iconst (v := 1) hx hb d_O_isInvalid_113 (by decide) ?_
              refine lv_goto (tgt := 118) hx hb d_O_isInvalid_114 (by decide) ?_
              have hE : g_O_isInvalid cw n1 p1 f1 n2 p2 f2 iop = (true) := by clear hP hD hl hS; unfold g_O_isInvalid; (try dsimp only); rw [if_neg c_3, if_neg c_18, if_neg c_41, if_pos c_70, if_pos c_80, if_pos c_90]
              have hP9 : va_P (dC, dI) classes [(aO, .inr (0, [.ref aT, .ref aF, .int cw, .int ts, .ref a1, .ref a2, .ref a3, .ref a4, .ref a5])), (a1, .inr (1, [.int (b2i n1), .int p1, .long f1])), (a2, .inr (1, [.int (b2i n2), .int p2, .long f2]))] H := by exact hP.sub [0, 1, 2] rfl
              have hD9 : va_D A [(aO, .inr (0, [.ref aT, .ref aF, .int cw, .int ts, .ref a1, .ref a2, .ref a3, .ref a4, .ref a5])), (a1, .inr (1, [.int (b2i n1), .int p1, .long f1])), (a2, .inr (1, [.int (b2i n2), .int p2, .long f2]))] := by exact hD.sub [0, 1, 2] (by decide) rfl
              exact W.zret (v := 1) hx hb hr (by first | exact nar_b2i _ | rfl) (fun t ht hW => ⟨⟨1, (), rfl, by rw [hE]; rfl, by rw [ht]; exact hP9, hD9⟩, hS.F ht⟩) hS.2.2 d_O_isInvalid_118
            · skip
              have c_90 : ¬ (g_R_isNothing p2 f2) = true := b2i_z c_90
              refine lv_aload_n hx hb d_O_isInvalid_93 rfl (lv_at hl 1 rfl) ?_
              refine va_get (D := (dC, dI)) (ci := 0) (v := .ref a1) (C := R_O) (T := F_O) (N := 9) hx hb htA in_O hown hK hP 0 rfl rfl 4 (by decide) (htA _ k_104) (fun _ h9 => h9) rfl d_O_isInvalid_94 ?_
              have hPc := hP.sub (ws' := [(a1, .inr (1, [.int (b2i n1), .int p1, .long f1]))]) [1] rfl
              have hDc := hD.sub (ws' := [(a1, .inr (1, [.int (b2i n1), .int p1, .long f1]))]) [1] (by decide) rfl
              have hKc := hK.sub (tys' := []) [] rfl
              have hFc := va_free (wc := [(a1, .inr (1, [.int (b2i n1), .int p1, .long f1]))]) hD hS hA [1] rfl
              refine cc_i (va_runVN (As := []) (rest := []) ⟨hx, hb, hml, hown, htA⟩ (c_R_isNothing l dC dI a1 H.size n1 p1 f1) ⟨va_cnB 0 htA (gi_code k_27) rfl rfl rfl (hnw _ n_8) (htA _ k_20) (by decide +kernel) ⟨Nat.le_of_ble_eq_true rfl, Nat.le_of_ble_eq_true rfl⟩, htA _ k_114, htA _ k_115⟩ (pre_V hnw hPc hKc hDc (ci := 1) (q0 := 0) rfl rfl) rfl rfl hl.1 rfl (lv_room (Nat.le_of_ble_eq_true rfl)) d_O_isInvalid_97 ⟨Nat.le_of_ble_eq_true rfl, Nat.le_of_ble_eq_true rfl⟩) hS hFc hP hD [1] [0, 2] (wr := [(aO, .inr (0, [.ref aT, .ref aF, .int cw, .int ts, .ref a1, .ref a2, .ref a3, .ref a4, .ref a5])), (a2, .inr (1, [.int (b2i n2), .int p2, .long f2]))]) rfl rfl (by decide) (by decide) (fun H locs hP hD hS => ?_)
              have hP : va_P (dC, dI) classes [(aO, .inr (0, [.ref aT, .ref aF, .int cw, .int ts, .ref a1, .ref a2, .ref a3, .ref a4, .ref a5])), (a2, .inr (1, [.int (b2i n2), .int p2, .long f2])), (a1, .inr (1, [.int (b2i n1), .int p1, .long f1]))] H := hP
              have hD : va_D A [(aO, .inr (0, [.ref aT, .ref aF, .int cw, .int ts, .ref a1, .ref a2, .ref a3, .ref a4, .ref a5])), (a2, .inr (1, [.int (b2i n2), .int p2, .long f2])), (a1, .inr (1, [.int (b2i n1), .int p1, .long f1]))] := hD
              refine lv_if_eq (tgt := 117) hx hb d_O_isInvalid_100 (by decide) (fun c_100 => ?_) (fun c_100 => ?_)
              · skip
                have c_100 : ¬ (g_R_isNothing p1 f1) = true := b2i_z c_100
                refine lv_iconst (v := 0) hx hb d_O_isInvalid_117 (by decide) ?_
                have hE : g_O_isInvalid cw n1 p1 f1 n2 p2 f2 iop = (false) := by clear hP hD hl hS; unfold g_O_isInvalid; (try dsimp only); rw [if_neg c_3, if_neg c_18, if_neg c_41, if_pos c_70, if_pos c_80, if_neg c_90, if_neg c_100]
                have hP9 : va_P (dC, dI) classes [(aO, .inr (0, [.ref aT, .ref aF, .int cw, .int ts, .ref a1, .ref a2, .ref a3, .ref a4, .ref a5])), (a1, .inr (1, [.int (b2i n1), .int p1, .long f1])), (a2, .inr (1, [.int (b2i n2), .int p2, .long f2]))] H := by exact hP.sub [0, 2, 1] rfl
                have hD9 : va_D A [(aO, .inr (0, [.ref aT, .ref aF, .int cw, .int ts, .ref a1, .ref a2, .ref a3, .ref a4, .ref a5])), (a1, .inr (1, [.int (b2i n1), .int p1, .long f1])), (a2, .inr (1, [.int (b2i n2), .int p2, .long f2]))] := by exact hD.sub [0, 2, 1] (by decide) rfl
                exact W.zret (v := 0) hx hb hr (by first | exact nar_b2i _ | rfl) (fun t ht hW => ⟨⟨0, (), rfl, by rw [hE]; rfl, by rw [ht]; exact hP9, hD9⟩, hS.F ht⟩) hS.2.2 d_O_isInvalid_118
              · skip
                have c_100 : (g_R_isNothing p1 f1) = true := b2i_nz c_100
                refine lv_aload_n hx hb d_O_isInvalid_103 rfl (lv_at hl 1 rfl) ?_
                refine va_get (D := (dC, dI)) (ci := 0) (v := .ref a2) (C := R_O) (T := F_O) (N := 9) hx hb htA in_O hown hK hP 0 rfl rfl 5 (by decide) (htA _ k_105) (fun _ h9 => h9) rfl d_O_isInvalid_104 ?_
                have hPc := hP.sub (ws' := [(a2, .inr (1, [.int (b2i n2), .int p2, .long f2]))]) [1] rfl
                have hDc := hD.sub (ws' := [(a2, .inr (1, [.int (b2i n2), .int p2, .long f2]))]) [1] (by decide) rfl
                have hKc := hK.sub (tys' := []) [] rfl
                have hFc := va_free (wc := [(a2, .inr (1, [.int (b2i n2), .int p2, .long f2]))]) hD hS hA [1] rfl
                refine cc_i (va_runVN (As := []) (rest := []) ⟨hx, hb, hml, hown, htA⟩ (c_R_isInfinite l dC dI a2 H.size n2 p2 f2) ⟨va_cnB 0 htA (gi_code k_28) rfl rfl rfl (hnw _ n_7) (htA _ k_20) (by decide +kernel) ⟨Nat.le_of_ble_eq_true rfl, Nat.le_of_ble_eq_true rfl⟩, htA _ k_109, htA _ k_110⟩ (pre_V hnw hPc hKc hDc (ci := 1) (q0 := 0) rfl rfl) rfl rfl hl.1 rfl (lv_room (Nat.le_of_ble_eq_true rfl)) d_O_isInvalid_107 ⟨Nat.le_of_ble_eq_true rfl, Nat.le_of_ble_eq_true rfl⟩) hS hFc hP hD [1] [0, 2] (wr := [(aO, .inr (0, [.ref aT, .ref aF, .int cw, .int ts, .ref a1, .ref a2, .ref a3, .ref a4, .ref a5])), (a1, .inr (1, [.int (b2i n1), .int p1, .long f1]))]) rfl rfl (by decide) (by decide) (fun H locs hP hD hS => ?_)
                have hP : va_P (dC, dI) classes [(aO, .inr (0, [.ref aT, .ref aF, .int cw, .int ts, .ref a1, .ref a2, .ref a3, .ref a4, .ref a5])), (a1, .inr (1, [.int (b2i n1), .int p1, .long f1])), (a2, .inr (1, [.int (b2i n2), .int p2, .long f2]))] H := hP
                have hD : va_D A [(aO, .inr (0, [.ref aT, .ref aF, .int cw, .int ts, .ref a1, .ref a2, .ref a3, .ref a4, .ref a5])), (a1, .inr (1, [.int (b2i n1), .int p1, .long f1])), (a2, .inr (1, [.int (b2i n2), .int p2, .long f2]))] := hD
                refine lv_if_eq (tgt := 117) hx hb d_O_isInvalid_110 (by decide) (fun c_110 => ?_) (fun c_110 => ?_)
                · skip
                  have c_110 : ¬ (g_R_isInfinite p2 f2) = true := b2i_z c_110
                  refine lv_iconst (v := 0) hx hb d_O_isInvalid_117 (by decide) ?_
                  have hE : g_O_isInvalid cw n1 p1 f1 n2 p2 f2 iop = (false) := by clear hP hD hl hS; unfold g_O_isInvalid; (try dsimp only); rw [if_neg c_3, if_neg c_18, if_neg c_41, if_pos c_70, if_pos c_80, if_neg c_90, if_pos c_100, if_neg c_110]
                  have hP9 : va_P (dC, dI) classes [(aO, .inr (0, [.ref aT, .ref aF, .int cw, .int ts, .ref a1, .ref a2, .ref a3, .ref a4, .ref a5])), (a1, .inr (1, [.int (b2i n1), .int p1, .long f1])), (a2, .inr (1, [.int (b2i n2), .int p2, .long f2]))] H := by exact hP.sub [0, 1, 2] rfl
                  have hD9 : va_D A [(aO, .inr (0, [.ref aT, .ref aF, .int cw, .int ts, .ref a1, .ref a2, .ref a3, .ref a4, .ref a5])), (a1, .inr (1, [.int (b2i n1), .int p1, .long f1])), (a2, .inr (1, [.int (b2i n2), .int p2, .long f2]))] := by exact hD.sub [0, 1, 2] (by decide) rfl
                  exact W.zret (v := 0) hx hb hr (by first | exact nar_b2i _ | rfl) (fun t ht hW => ⟨⟨0, (), rfl, by rw [hE]; rfl, by rw [ht]; exact hP9, hD9⟩, hS.F ht⟩) hS.2.2 d_O_isInvalid_118
                · skip
                  have c_110 : (g_R_isInfinite p2 f2) = true := b2i_nz c_110
                  refine lv_iconst (v := 1) hx hb d_O_isInvalid_113 (by decide) ?_
                  refine lv_goto (tgt := 118) hx hb d_O_isInvalid_114 (by decide) ?_
                  have hE : g_O_isInvalid cw n1 p1 f1 n2 p2 f2 iop = (true) := by clear hP hD hl hS; unfold g_O_isInvalid; (try dsimp only); rw [if_neg c_3, if_neg c_18, if_neg c_41, if_pos c_70, if_pos c_80, if_neg c_90, if_pos c_100, if_pos c_110]
                  have hP9 : va_P (dC, dI) classes [(aO, .inr (0, [.ref aT, .ref aF, .int cw, .int ts, .ref a1, .ref a2, .ref a3, .ref a4, .ref a5])), (a1, .inr (1, [.int (b2i n1), .int p1, .long f1])), (a2, .inr (1, [.int (b2i n2), .int p2, .long f2]))] H := by exact hP.sub [0, 1, 2] rfl
                  have hD9 : va_D A [(aO, .inr (0, [.ref aT, .ref aF, .int cw, .int ts, .ref a1, .ref a2, .ref a3, .ref a4, .ref a5])), (a1, .inr (1, [.int (b2i n1), .int p1, .long f1])), (a2, .inr (1, [.int (b2i n2), .int p2, .long f2]))] := by exact hD.sub [0, 1, 2] (by decide) rfl
                  exact W.zret (v := 1) hx hb hr (by first | exact nar_b2i _ | rfl) (fun t ht hW => ⟨⟨1, (), rfl, by rw [hE]; rfl, by rw [ht]; exact hP9, hD9⟩, hS.F ht⟩) hS.2.2 d_O_isInvalid_118
      · skip
        have c_41 : (g_O_isSum iop) = true := b2i_nz c_41
        refine lv_iload_n hx hb d_O_isInvalid_44 rfl (lv_at hl 0 rfl) ?_
        refine lv_if_eq (tgt := 66) hx hb d_O_isInvalid_45 (by decide) (fun _ => ?_) (fun c_45 => absurd c_45 (by decide))
        refine lv_iconst (v := 0) hx hb d_O_isInvalid_66 (by decide) ?_
        have hE : g_O_isInvalid cw n1 p1 f1 n2 p2 f2 iop = (false) := by clear hP hD hl hS; unfold g_O_isInvalid; (try dsimp only); rw [if_neg c_3, if_neg c_18, if_pos c_41]
        have hP9 : va_P (dC, dI) classes [(aO, .inr (0, [.ref aT, .ref aF, .int cw, .int ts, .ref a1, .ref a2, .ref a3, .ref a4, .ref a5])), (a1, .inr (1, [.int (b2i n1), .int p1, .long f1])), (a2, .inr (1, [.int (b2i n2), .int p2, .long f2]))] H := by exact hP.sub [0, 2, 1] rfl
        have hD9 : va_D A [(aO, .inr (0, [.ref aT, .ref aF, .int cw, .int ts, .ref a1, .ref a2, .ref a3, .ref a4, .ref a5])), (a1, .inr (1, [.int (b2i n1), .int p1, .long f1])), (a2, .inr (1, [.int (b2i n2), .int p2, .long f2]))] := by exact hD.sub [0, 2, 1] (by decide) rfl
        exact W.zret (v := 0) hx hb hr (by first | exact nar_b2i _ | rfl) (fun t ht hW => ⟨⟨0, (), rfl, by rw [hE]; rfl, by rw [ht]; exact hP9, hD9⟩, hS.F ht⟩) hS.2.2 d_O_isInvalid_67
    · skip
      have c_18 : (g_R_isInfinite p1 f1) = true := b2i_nz c_18
      refine lv_aload_n hx hb d_O_isInvalid_21 rfl (lv_at hl 0 rfl) ?_
      refine va_get (D := (dC, dI)) (ci := 0) (v := .ref a2) (C := R_O) (T := F_O) (N := 9) hx hb htA in_O hown hK hP 0 rfl rfl 5 (by decide) (htA _ k_105) (fun _ h9 => h9) rfl d_O_isInvalid_22 ?_
      have hPc := hP.sub (ws' := [(a2, .inr (1, [.int (b2i n2), .int p2, .long f2]))]) [1] rfl
      have hDc := hD.sub (ws' := [(a2, .inr (1, [.int (b2i n2), .int p2, .long f2]))]) [1] (by decide) rfl
      have hKc := hK.sub (tys' := []) [] rfl
      have hFc := va_free (wc := [(a2, .inr (1, [.int (b2i n2), .int p2, .long f2]))]) hD hS hA [1] rfl
      refine cc_i (va_runVN (As := []) (rest := []) ⟨hx, hb, hml, hown, htA⟩ (c_R_isInfinite l dC dI a2 H.size n2 p2 f2) ⟨va_cnB 0 htA (gi_code k_28) rfl rfl rfl (hnw _ n_7) (htA _ k_20) (by decide +kernel) ⟨Nat.le_of_ble_eq_true rfl, Nat.le_of_ble_eq_true rfl⟩, htA _ k_109, htA _ k_110⟩ (pre_V hnw hPc hKc hDc (ci := 1) (q0 := 0) rfl rfl) rfl rfl hl.1 rfl (lv_room (Nat.le_of_ble_eq_true rfl)) d_O_isInvalid_25 ⟨Nat.le_of_ble_eq_true rfl, Nat.le_of_ble_eq_true rfl⟩) hS hFc hP hD [1] [0, 2] (wr := [(aO, .inr (0, [.ref aT, .ref aF, .int cw, .int ts, .ref a1, .ref a2, .ref a3, .ref a4, .ref a5])), (a1, .inr (1, [.int (b2i n1), .int p1, .long f1]))]) rfl rfl (by decide) (by decide) (fun H locs hP hD hS => ?_)
      have hP : va_P (dC, dI) classes [(aO, .inr (0, [.ref aT, .ref aF, .int cw, .int ts, .ref a1, .ref a2, .ref a3, .ref a4, .ref a5])), (a1, .inr (1, [.int (b2i n1), .int p1, .long f1])), (a2, .inr (1, [.int (b2i n2), .int p2, .long f2]))] H := hP
      have hD : va_D A [(aO, .inr (0, [.ref aT, .ref aF, .int cw, .int ts, .ref a1, .ref a2, .ref a3, .ref a4, .ref a5])), (a1, .inr (1, [.int (b2i n1), .int p1, .long f1])), (a2, .inr (1, [.int (b2i n2), .int p2, .long f2]))] := hD
      refine lv_if_eq (tgt := 35) hx hb d_O_isInvalid_28 (by decide) (fun c_28 => ?_) (fun c_28 => ?_)
      · skip
        have c_28 : ¬ (g_R_isInfinite p2 f2) = true := b2i_z c_28
        refine lv_iconst (v := 0) hx hb d_O_isInvalid_35 (by decide) ?_
        refine lv_istore_n (lv' := [(2, .int 0), (0, .ref aO), (1, .int iop)]) hx hb d_O_isInvalid_36 rfl hl (by decide) rfl (fun ls hl => ?_)
        refine lv_iload_n hx hb d_O_isInvalid_37 rfl (lv_at hl 2 rfl) ?_
        have hPc := hP.sub (ws' := []) [] rfl
        have hDc := hD.sub (ws' := []) [] (by decide) rfl
        have hKc := hK.sub (tys' := []) [] rfl
        have hFc := va_free (wc := []) hD hS hA [] rfl
        refine cc_i (va_runS (As := [.int iop]) (rest := []) ⟨hx, hb, hml, hown, htA⟩ (c_O_isSum l dC dI H.size iop) (va_cwS 1 htA (gi_S k_117 k_118 k_90 (gi_code k_93)) rfl rfl rfl (by decide +kernel) ⟨Nat.le_of_ble_eq_true rfl, Nat.le_of_ble_eq_true rfl⟩) (pre_S hnw hPc hKc hDc) rfl rfl hl.1 rfl (lv_room (Nat.le_of_ble_eq_true rfl)) d_O_isInvalid_38 ⟨Nat.le_of_ble_eq_true rfl, Nat.le_of_ble_eq_true rfl⟩) hS hFc hP hD [] [0, 1, 2] (wr := [(aO, .inr (0, [.ref aT, .ref aF, .int cw, .int ts, .ref a1, .ref a2, .ref a3, .ref a4, .ref a5])), (a1, .inr (1, [.int (b2i n1), .int p1, .long f1])), (a2, .inr (1, [.int (b2i n2), .int p2, .long f2]))]) rfl rfl (by decide) (by decide) (fun H locs hP hD hS => ?_)
        have hP : va_P (dC, dI) classes [(aO, .inr (0, [.ref aT, .ref aF, .int cw, .int ts, .ref a1, .ref a2, .ref a3, .ref a4, .ref a5])), (a1, .inr (1, [.int (b2i n1), .int p1, .long f1])), (a2, .inr (1, [.int (b2i n2), .int p2, .long f2]))] H := hP
        have hD : va_D A [(aO, .inr (0, [.ref aT, .ref aF, .int cw, .int ts, .ref a1, .ref a2, .ref a3, .ref a4, .ref a5])), (a1, .inr (1, [.int (b2i n1), .int p1, .long f1])), (a2, .inr (1, [.int (b2i n2), .int p2, .long f2]))] := hD
        refine lv_if_eq (tgt := 68) hx hb d_O_isInvalid_41 (by decide) (fun c_41 => ?_) (fun c_41 => ?_)
        · skip
          have c_41 : ¬ (g_O_isSum iop) = true := b2i_z c_41
          refine lv_iload_n hx hb d_O_isInvalid_68 rfl (lv_at hl 2 rfl) ?_
          refine lv_iconst (v := 3) hx hb d_O_isInvalid_69 (by decide) ?_
          refine lv_icmp_ne (tgt := 119) hx hb d_O_isInvalid_70 (by decide) (fun c_70 => ?_) (fun c_70 => ?_)
          · skip
            refine lv_iload_n hx hb d_O_isInvalid_119 rfl (lv_at hl 0 rfl) ?_
            refine lv_if_ne (tgt := 153) hx hb d_O_isInvalid_120 (by decide) (fun c_120 => absurd c_120 (by decide)) (fun _ => ?_)
            refine lv_aload_n hx hb d_O_isInvalid_123 rfl (lv_at hl 1 rfl) ?_
            refine va_get (D := (dC, dI)) (ci := 0) (v := .ref a1) (C := R_O) (T := F_O) (N := 9) hx hb htA in_O hown hK hP 0 rfl rfl 4 (by decide) (htA _ k_104) (fun _ h9 => h9) rfl d_O_isInvalid_124 ?_
            have hPc := hP.sub (ws' := [(a1, .inr (1, [.int (b2i n1), .int p1, .long f1]))]) [1] rfl
            have hDc := hD.sub (ws' := [(a1, .inr (1, [.int (b2i n1), .int p1, .long f1]))]) [1] (by decide) rfl
            have hKc := hK.sub (tys' := []) [] rfl
            have hFc := va_free (wc := [(a1, .inr (1, [.int (b2i n1), .int p1, .long f1]))]) hD hS hA [1] rfl
            refine cc_i (va_runVN (As := []) (rest := []) ⟨hx, hb, hml, hown, htA⟩ (c_R_isNothing l dC dI a1 H.size n1 p1 f1) ⟨va_cnB 0 htA (gi_code k_27) rfl rfl rfl (hnw _ n_8) (htA _ k_20) (by decide +kernel) ⟨Nat.le_of_ble_eq_true rfl, Nat.le_of_ble_eq_true rfl⟩, htA _ k_114, htA _ k_115⟩ (pre_V hnw hPc hKc hDc (ci := 1) (q0 := 0) rfl rfl) rfl rfl hl.1 rfl (lv_room (Nat.le_of_ble_eq_true rfl)) d_O_isInvalid_127 ⟨Nat.le_of_ble_eq_true rfl, Nat.le_of_ble_eq_true rfl⟩) hS hFc hP hD [1] [0, 2] (wr := [(aO, .inr (0, [.ref aT, .ref aF, .int cw, .int ts, .ref a1, .ref a2, .ref a3, .ref a4, .ref a5])), (a2, .inr (1, [.int (b2i n2), .int p2, .long f2]))]) rfl rfl (by decide) (by decide) (fun H locs hP hD hS => ?_)
            have hP : va_P (dC, dI) classes [(aO, .inr (0, [.ref aT, .ref aF, .int cw, .int ts, .ref a1, .ref a2, .ref a3, .ref a4, .ref a5])), (a2, .inr (1, [.int (b2i n2), .int p2, .long f2])), (a1, .inr (1, [.int (b2i n1), .int p1, .long f1]))] H := hP
            have hD : va_D A [(aO, .inr (0, [.ref aT, .ref aF, .int cw, .int ts, .ref a1, .ref a2, .ref a3, .ref a4, .ref a5])), (a2, .inr (1, [.int (b2i n2), .int p2, .long f2])), (a1, .inr (1, [.int (b2i n1), .int p1, .long f1]))] := hD
            refine lv_if_eq (tgt := 143) hx hb d_O_isInvalid_130 (by decide) (fun c_130 => ?_) (fun c_130 => ?_)
            · skip
              have c_130 : ¬ (g_R_isNothing p1 f1) = true := b2i_z c_130
              refine lv_aload_n hx hb d_O_isInvalid_143 rfl (lv_at hl 1 rfl) ?_
              refine va_get (D := (dC, dI)) (ci := 0) (v := .ref a2) (C := R_O) (T := F_O) (N := 9) hx hb htA in_O hown hK hP 0 rfl rfl 5 (by decide) (htA _ k_105) (fun _ h9 => h9) rfl d_O_isInvalid_144 ?_
              have hPc := hP.sub (ws' := [(a2, .inr (1, [.int (b2i n2), .int p2, .long f2]))]) [1] rfl
              have hDc := hD.sub (ws' := [(a2, .inr (1, [.int (b2i n2), .int p2, .long f2]))]) [1] (by decide) rfl
              have hKc := hK.sub (tys' := []) [] rfl
              have hFc := va_free (wc := [(a2, .inr (1, [.int (b2i n2), .int p2, .long f2]))]) hD hS hA [1] rfl
              refine cc_i (va_runVN (As := []) (rest := []) ⟨hx, hb, hml, hown, htA⟩ (c_R_isUnnormalOfSize l dC dI a2 H.size n2 p2 f2) ⟨va_cnB 0 htA (gi_code k_26) rfl rfl rfl (hnw _ n_6) (htA _ k_20) (by decide +kernel) ⟨Nat.le_of_ble_eq_true rfl, Nat.le_of_ble_eq_true rfl⟩, htA _ k_107, htA _ k_108⟩ (pre_V hnw hPc hKc hDc (ci := 1) (q0 := 0) rfl rfl) rfl rfl hl.1 rfl (lv_room (Nat.le_of_ble_eq_true rfl)) d_O_isInvalid_147 ⟨Nat.le_of_ble_eq_true rfl, Nat.le_of_ble_eq_true rfl⟩) hS hFc hP hD [1] [0, 2] (wr := [(aO, .inr (0, [.ref aT, .ref aF, .int cw, .int ts, .ref a1, .ref a2, .ref a3, .ref a4, .ref a5])), (a1, .inr (1, [.int (b2i n1), .int p1, .long f1]))]) rfl rfl (by decide) (by decide) (fun H locs hP hD hS => ?_)
              have hP : va_P (dC, dI) classes [(aO, .inr (0, [.ref aT, .ref aF, .int cw, .int ts, .ref a1, .ref a2, .ref a3, .ref a4, .ref a5])), (a1, .inr (1, [.int (b2i n1), .int p1, .long f1])), (a2, .inr (1, [.int (b2i n2), .int p2, .long f2]))] H := hP
              have hD : va_D A [(aO, .inr (0, [.ref aT, .ref aF, .int cw, .int ts, .ref a1, .ref a2, .ref a3, .ref a4, .ref a5])), (a1, .inr (1, [.int (b2i n1), .int p1, .long f1])), (a2, .inr (1, [.int (b2i n2), .int p2, .long f2]))] := hD
              refine lv_if_eq (tgt := 157) hx hb d_O_isInvalid_150 (by decide) (fun c_150 => ?_) (fun c_150 => ?_)
              · skip
                have c_150 : ¬ (g_R_isUnnormalOfSize p2 f2) = true := b2i_z c_150
                refine lv_iconst (v := 0) hx hb d_O_isInvalid_157 (by decide) ?_
                have hE : g_O_isInvalid cw n1 p1 f1 n2 p2 f2 iop = (false) := by clear hP hD hl hS; unfold g_O_isInvalid; (try dsimp only); rw [if_neg c_3, if_pos c_18, if_neg c_28, if_neg c_41, if_neg c_70, if_neg c_130, if_neg c_150]
                have hP9 : va_P (dC, dI) classes [(aO, .inr (0, [.ref aT, .ref aF, .int cw, .int ts, .ref a1, .ref a2, .ref a3, .ref a4, .ref a5])), (a1, .inr (1, [.int (b2i n1), .int p1, .long f1])), (a2, .inr (1, [.int (b2i n2), .int p2, .long f2]))] H := by exact hP.sub [0, 1, 2] rfl
                have hD9 : va_D A [(aO, .inr (0, [.ref aT, .ref aF, .int cw, .int ts, .ref a1, .ref a2, .ref a3, .ref a4, .ref a5])), (a1, .inr (1, [.int (b2i n1), .int p1, .long f1])), (a2, .inr (1, [.int (b2i n2), .int p2, .long f2]))] := by exact hD.sub [0, 1, 2] (by decide) rfl
                exact W.zret (v := 0) hx hb hr (by first | exact nar_b2i _ | rfl) (fun t ht hW => ⟨⟨0, (), rfl, by rw [hE]; rfl, by rw [ht]; exact hP9, hD9⟩, hS.F ht⟩) hS.2.2 d_O_isInvalid_158
              · skip
                have c_150 : (g_R_isUnnormalOfSize p2 f2) = true := b2i_nz c_150
                refine lv_iconst (v := 1) hx hb d_O_isInvalid_153 (by decide) ?_
                refine lv_goto (tgt := 158) hx hb d_O_isInvalid_154 (by decide) ?_
                have hE : g_O_isInvalid cw n1 p1 f1 n2 p2 f2 iop = (true) := by clear hP hD hl hS; unfold g_O_isInvalid; (try dsimp only); rw [if_neg c_3, if_pos c_18, if_neg c_28, if_neg c_41, if_neg c_70, if_neg c_130, if_pos c_150]
                have hP9 : va_P (dC, dI) classes [(aO, .inr (0, [.ref aT, .ref aF, .int cw, .int ts, .ref a1, .ref a2, .ref a3, .ref a4, .ref a5])), (a1, .inr (1, [.int (b2i n1), .int p1, .long f1])), (a2, .inr (1, [.int (b2i n2), .int p2, .long f2]))] H := by exact hP.sub [0, 1, 2] rfl
                have hD9 : va_D A [(aO, .inr (0, [.ref aT, .ref aF, .int cw, .int ts, .ref a1, .ref a2, .ref a3, .ref a4, .ref a5])), (a1, .inr (1, [.int (b2i n1), .int p1, .long f1])), (a2, .inr (1, [.int (b2i n2), .int p2, .long f2]))] := by exact hD.sub [0, 1, 2] (by decide) rfl
                exact W.zret (v := 1) hx hb hr (by first | exact nar_b2i _ | rfl) (fun t ht hW => ⟨⟨1, (), rfl, by rw [hE]; rfl, by rw [ht]; exact hP9, hD9⟩, hS.F ht⟩) hS.2.2 d_O_isInvalid_158
            · skip
              have c_130 : (g_R_isNothing p1 f1) = true := b2i_nz c_130
              refine lv_aload_n hx hb d_O_isInvalid_133 rfl (lv_at hl 1 rfl) ?_
              refine va_get (D := (dC, dI)) (ci := 0) (v := .ref a2) (C := R_O) (T := F_O) (N := 9) hx hb htA in_O hown hK hP 0 rfl rfl 5 (by decide) (htA _ k_105) (fun _ h9 => h9) rfl d_O_isInvalid_134 ?_
              have hPc := hP.sub (ws' := [(a2, .inr (1, [.int (b2i n2), .int p2, .long f2]))]) [1] rfl
              have hDc := hD.sub (ws' := [(a2, .inr (1, [.int (b2i n2), .int p2, .long f2]))]) [1] (by decide) rfl
              have hKc := hK.sub (tys' := []) [] rfl
              have hFc := va_free (wc := [(a2, .inr (1, [.int (b2i n2), .int p2, .long f2]))]) hD hS hA [1] rfl
              refine cc_i (va_runVN (As := []) (rest := []) ⟨hx, hb, hml, hown, htA⟩ (c_R_isNothing l dC dI a2 H.size n2 p2 f2) ⟨va_cnB 0 htA (gi_code k_27) rfl rfl rfl (hnw _ n_8) (htA _ k_20) (by decide +kernel) ⟨Nat.le_of_ble_eq_true rfl, Nat.le_of_ble_eq_true rfl⟩, htA _ k_114, htA _ k_115⟩ (pre_V hnw hPc hKc hDc (ci := 1) (q0 := 0) rfl rfl) rfl rfl hl.1 rfl (lv_room (Nat.le_of_ble_eq_true rfl)) d_O_isInvalid_137 ⟨Nat.le_of_ble_eq_true rfl, Nat.le_of_ble_eq_true rfl⟩) hS hFc hP hD [1] [0, 2] (wr := [(aO, .inr (0, [.ref aT, .ref aF, .int cw, .int ts, .ref a1, .ref a2, .ref a3, .ref a4, .ref a5])), (a1, .inr (1, [.int (b2i n1), .int p1, .long f1]))]) rfl rfl (by decide) (by decide) (fun H locs hP hD hS => ?_)
              have hP : va_P (dC, dI) classes [(aO, .inr (0, [.ref aT, .ref aF, .int cw, .int ts, .ref a1, .ref a2, .ref a3, .ref a4, .ref a5])), (a1, .inr (1, [.int (b2i n1), .int p1, .long f1])), (a2, .inr (1, [.int (b2i n2), .int p2, .long f2]))] H := hP
              have hD : va_D A [(aO, .inr (0, [.ref aT, .ref aF, .int cw, .int ts, .ref a1, .ref a2, .ref a3, .ref a4, .ref a5])), (a1, .inr (1, [.int (b2i n1), .int p1, .long f1])), (a2, .inr (1, [.int (b2i n2), .int p2, .long f2]))] := hD
              refine lv_if_ne (tgt := 153) hx hb d_O_isInvalid_140 (by decide) (fun c_140 => ?_) (fun c_140 => ?_)
              · skip
                have c_140 : (g_R_isNothing p2 f2) = true := b2i_nz c_140
                refine lv_iconst (v := 1) hx hb d_O_isInvalid_153 (by decide) ?_
                refine lv_goto (tgt := 158) hx hb d_O_isInvalid_154 (by decide) ?_
                have hE : g_O_isInvalid cw n1 p1 f1 n2 p2 f2 iop = (true) := by clear hP hD hl hS; unfold g_O_isInvalid; (try dsimp only); rw [if_neg c_3, if_pos c_18, if_neg c_28, if_neg c_41, if_neg c_70, if_pos c_130, if_pos c_140]
                have hP9 : va_P (dC, dI) classes [(aO, .inr (0, [.ref aT, .ref aF, .int cw, .int ts, .ref a1, .ref a2, .ref a3, .ref a4, .ref a5])), (a1, .inr (1, [.int (b2i n1), .int p1, .long f1])), (a2, .inr (1, [.int (b2i n2), .int p2, .long f2]))] H := by exact hP.sub [0, 1, 2] rfl
                have hD9 : va_D A [(aO, .inr (0, [.ref aT, .ref aF, .int cw, .int ts, .ref a1, .ref a2, .ref a3, .ref a4, .ref a5])), (a1, .inr (1, [.int (b2i n1), .int p1, .long f1])), (a2, .inr (1, [.int (b2i n2), .int p2, .long f2]))] := by exact hD.sub [0, 1, 2] (by decide) rfl
                exact W.zret (v := 1) hx hb hr (by first | exact nar_b2i _ | rfl) (fun t ht hW => ⟨⟨1, (), rfl, by rw [hE]; rfl, by rw [ht]; exact hP9, hD9⟩, hS.F ht⟩) hS.2.2 d_O_isInvalid_158
              · skip
                have c_140 : ¬ (g_R_isNothing p2 f2) = true := b2i_z c_140
                refine lv_aload_n hx hb d_O_isInvalid_143 rfl (lv_at hl 1 rfl) ?_
                refine va_get (D := (dC, dI)) (ci := 0) (v := .ref a2) (C := R_O) (T := F_O) (N := 9) hx hb htA in_O hown hK hP 0 rfl rfl 5 (by decide) (htA _ k_105) (fun _ h9 => h9) rfl d_O_isInvalid_144 ?_
                have hPc := hP.sub (ws' := [(a2, .inr (1, [.int (b2i n2), .int p2, .long f2]))]) [2] rfl
                have hDc := hD.sub (ws' := [(a2, .inr (1, [.int (b2i n2), .int p2, .long f2]))]) [2] (by decide) rfl
                have hKc := hK.sub (tys' := []) [] rfl
                have hFc := va_free (wc := [(a2, .inr (1, [.int (b2i n2), .int p2, .long f2]))]) hD hS hA [2] rfl
                refine cc_i (va_runVN (As := []) (rest := []) ⟨hx, hb, hml, hown, htA⟩ (c_R_isUnnormalOfSize l dC dI a2 H.size n2 p2 f2) ⟨va_cnB 0 htA (gi_code k_26) rfl rfl rfl (hnw _ n_6) (htA _ k_20) (by decide +kernel) ⟨Nat.le_of_ble_eq_true rfl, Nat.le_of_ble_eq_true rfl⟩, htA _ k_107, htA _ k_108⟩ (pre_V hnw hPc hKc hDc (ci := 1) (q0 := 0) rfl rfl) rfl rfl hl.1 rfl (lv_room (Nat.le_of_ble_eq_true rfl)) d_O_isInvalid_147 ⟨Nat.le_of_ble_eq_true rfl, Nat.le_of_ble_eq_true rfl⟩) hS hFc hP hD [2] [0, 1] (wr := [(aO, .inr (0, [.ref aT, .ref aF, .int cw, .int ts, .ref a1, .ref a2, .ref a3, .ref a4, .ref a5])), (a1, .inr (1, [.int (b2i n1), .int p1, .long f1]))]) rfl rfl (by decide) (by decide) (fun H locs hP hD hS => ?_)
                have hP : va_P (dC, dI) classes [(aO, .inr (0, [.ref aT, .ref aF, .int cw, .int ts, .ref a1, .ref a2, .ref a3, .ref a4, .ref a5])), (a1, .inr (1, [.int (b2i n1), .int p1, .long f1])), (a2, .inr (1, [.int (b2i n2), .int p2, .long f2]))] H := hP
                have hD : va_D A [(aO, .inr (0, [.ref aT, .ref aF, .int cw, .int ts, .ref a1, .ref a2, .ref a3, .ref a4, .ref a5])), (a1, .inr (1, [.int (b2i n1), .int p1, .long f1])), (a2, .inr (1, [.int (b2i n2), .int p2, .long f2]))] := hD
                refine lv_if_eq (tgt := 157) hx hb d_O_isInvalid_150 (by decide) (fun c_150 => ?_) (fun c_150 => ?_)
                · skip
                  have c_150 : ¬ (g_R_isUnnormalOfSize p2 f2) = true := b2i_z c_150
                  refine lv_iconst (v := 0) hx hb d_O_isInvalid_157 (by decide) ?_
                  have hE : g_O_isInvalid cw n1 p1 f1 n2 p2 f2 iop = (false) := by clear hP hD hl hS; unfold g_O_isInvalid; (try dsimp only); rw [if_neg c_3, if_pos c_18, if_neg c_28, if_neg c_41, if_neg c_70, if_pos c_130, if_neg c_140, if_neg c_150]
                  have hP9 : va_P (dC, dI) classes [(aO, .inr (0, [.ref aT, .ref aF, .int cw, .int ts, .ref a1, .ref a2, .ref a3, .ref a4, .ref a5])), (a1, .inr (1, [.int (b2i n1), .int p1, .long f1])), (a2, .inr (1, [.int (b2i n2), .int p2, .long f2]))] H := by exact hP.sub [0, 1, 2] rfl
                  have hD9 : va_D A [(aO, .inr (0, [.ref aT, .ref aF, .int cw, .int ts, .ref a1, .ref a2, .ref a3, .ref a4, .ref a5])), (a1, .inr (1, [.int (b2i n1), .int p1, .long f1])), (a2, .inr (1, [.int (b2i n2), .int p2, .long f2]))] := by exact hD.sub [0, 1, 2] (by decide) rfl
                  exact W.zret (v := 0) hx hb hr (by first | exact nar_b2i _ | rfl) (fun t ht hW => ⟨⟨0, (), rfl, by rw [hE]; rfl, by rw [ht]; exact hP9, hD9⟩, hS.F ht⟩) hS.2.2 d_O_isInvalid_158
                · skip
                  have c_150 : (g_R_isUnnormalOfSize p2 f2) = true := b2i_nz c_150
                  refine lv_iconst (v := 1) hx hb d_O_isInvalid_153 (by decide) ?_
                  refine lv_goto (tgt := 158) hx hb d_O_isInvalid_154 (by decide) ?_
                  have hE : g_O_isInvalid cw n1 p1 f1 n2 p2 f2 iop = (true) := by clear hP hD hl hS; unfold g_O_isInvalid; (try dsimp only); rw [if_neg c_3, if_pos c_18, if_neg c_28, if_neg c_41, if_neg c_70, if_pos c_130, if_neg c_140, if_pos c_150]
                  have hP9 : va_P (dC, dI) classes [(aO, .inr (0, [.ref aT, .ref aF, .int cw, .int ts, .ref a1, .ref a2, .ref a3, .ref a4, .ref a5])), (a1, .inr (1, [.int (b2i n1), .int p1, .long f1])), (a2, .inr (1, [.int (b2i n2), .int p2, .long f2]))] H := by exact hP.sub [0, 1, 2] rfl
                  have hD9 : va_D A [(aO, .inr (0, [.ref aT, .ref aF, .int cw, .int ts, .ref a1, .ref a2, .ref a3, .ref a4, .ref a5])), (a1, .inr (1, [.int (b2i n1), .int p1, .long f1])), (a2, .inr (1, [.int (b2i n2), .int p2, .long f2]))] := by exact hD.sub [0, 1, 2] (by decide) rfl
                  exact W.zret (v := 1) hx hb hr (by first | exact nar_b2i _ | rfl) (fun t ht hW => ⟨⟨1, (), rfl, by rw [hE]; rfl, by rw [ht]; exact hP9, hD9⟩, hS.F ht⟩) hS.2.2 d_O_isInvalid_158
          · skip
            refine lv_aload_n hx hb d_O_isInvalid_73 rfl (lv_at hl 1 rfl) ?_
            refine va_get (D := (dC, dI)) (ci := 0) (v := .ref a1) (C := R_O) (T := F_O) (N := 9) hx hb htA in_O hown hK hP 0 rfl rfl 4 (by decide) (htA _ k_104) (fun _ h9 => h9) rfl d_O_isInvalid_74 ?_
            have hPc := hP.sub (ws' := [(a1, .inr (1, [.int (b2i n1), .int p1, .long f1]))]) [1] rfl
            have hDc := hD.sub (ws' := [(a1, .inr (1, [.int (b2i n1), .int p1, .long f1]))]) [1] (by decide) rfl
            have hKc := hK.sub (tys' := []) [] rfl
            have hFc := va_free (wc := [(a1, .inr (1, [.int (b2i n1), .int p1, .long f1]))]) hD hS hA [1] rfl
            refine cc_i (va_runVN (As := []) (rest := []) ⟨hx, hb, hml, hown, htA⟩ (c_R_isInfinite l dC dI a1 H.size n1 p1 f1) ⟨va_cnB 0 htA (gi_code k_28) rfl rfl rfl (hnw _ n_7) (htA _ k_20) (by decide +kernel) ⟨Nat.le_of_ble_eq_true rfl, Nat.le_of_ble_eq_true rfl⟩, htA _ k_109, htA _ k_110⟩ (pre_V hnw hPc hKc hDc (ci := 1) (q0 := 0) rfl rfl) rfl rfl hl.1 rfl (lv_room (Nat.le_of_ble_eq_true rfl)) d_O_isInvalid_77 ⟨Nat.le_of_ble_eq_true rfl, Nat.le_of_ble_eq_true rfl⟩) hS hFc hP hD [1] [0, 2] (wr := [(aO, .inr (0, [.ref aT, .ref aF, .int cw, .int ts, .ref a1, .ref a2, .ref a3, .ref a4, .ref a5])), (a2, .inr (1, [.int (b2i n2), .int p2, .long f2]))]) rfl rfl (by decide) (by decide) (fun H locs hP hD hS => ?_)
            have hP : va_P (dC, dI) classes [(aO, .inr (0, [.ref aT, .ref aF, .int cw, .int ts, .ref a1, .ref a2, .ref a3, .ref a4, .ref a5])), (a2, .inr (1, [.int (b2i n2), .int p2, .long f2])), (a1, .inr (1, [.int (b2i n1), .int p1, .long f1]))] H := hP
            have hD : va_D A [(aO, .inr (0, [.ref aT, .ref aF, .int cw, .int ts, .ref a1, .ref a2, .ref a3, .ref a4, .ref a5])), (a2, .inr (1, [.int (b2i n2), .int p2, .long f2])), (a1, .inr (1, [.int (b2i n1), .int p1, .long f1]))] := hD
            refine lv_if_eq (tgt := 93) hx hb d_O_isInvalid_80 (by decide) (fun c_80 => ?_) (fun c_80 => ?_)
            · skip
              have c_80 : ¬ (g_R_isInfinite p1 f1) = true := b2i_z c_80
              refine lv_aload_n hx hb d_O_isInvalid_93 rfl (lv_at hl 1 rfl) ?_
              refine va_get (D := (dC, dI)) (ci := 0) (v := .ref a1) (C := R_O) (T := F_O) (N := 9) hx hb htA in_O hown hK hP 0 rfl rfl 4 (by decide) (htA _ k_104) (fun _ h9 => h9) rfl d_O_isInvalid_94 ?_
              have hPc := hP.sub (ws' := [(a1, .inr (1, [.int (b2i n1), .int p1, .long f1]))]) [2] rfl
              have hDc := hD.sub (ws' := [(a1, .inr (1, [.int (b2i n1), .int p1, .long f1]))]) [2] (by decide) rfl
              have hKc := hK.sub (tys' := []) [] rfl
              have hFc := va_free (wc := [(a1, .inr (1, [.int (b2i n1), .int p1, .long f1]))]) hD hS hA [2] rfl
              refine cc_i (va_runVN (As := []) (rest := []) ⟨hx, hb, hml, hown, htA⟩ (c_R_isNothing l dC dI a1 H.size n1 p1 f1) ⟨va_cnB 0 htA (gi_code k_27) rfl rfl rfl (hnw _ n_8) (htA _ k_20) (by decide +kernel) ⟨Nat.le_of_ble_eq_true rfl, Nat.le_of_ble_eq_true rfl⟩, htA _ k_114, htA _ k_115⟩ (pre_V hnw hPc hKc hDc (ci := 1) (q0 := 0) rfl rfl) rfl rfl hl.1 rfl (lv_room (Nat.le_of_ble_eq_true rfl)) d_O_isInvalid_97 ⟨Nat.le_of_ble_eq_true rfl, Nat.le_of_ble_eq_true rfl⟩) hS hFc hP hD [2] [0, 1] (wr := [(aO, .inr (0, [.ref aT, .ref aF, .int cw, .int ts, .ref a1, .ref a2, .ref a3, .ref a4, .ref a5])), (a2, .inr (1, [.int (b2i n2), .int p2, .long f2]))]) rfl rfl (by decide) (by decide) (fun H locs hP hD hS => ?_)
              have hP : va_P (dC, dI) classes [(aO, .inr (0, [.ref aT, .ref aF, .int cw, .int ts, .ref a1, .ref a2, .ref a3, .ref a4, .ref a5])), (a2, .inr (1, [.int (b2i n2), .int p2, .long f2])), (a1, .inr (1, [.int (b2i n1), .int p1, .long f1]))] H := hP
              have hD : va_D A [(aO, .inr (0, [.ref aT, .ref aF, .int cw, .int ts, .ref a1, .ref a2, .ref a3, .ref a4, .ref a5])), (a2, .inr (1, [.int (b2i n2), .int p2, .long f2])), (a1, .inr (1, [.int (b2i n1), .int p1, .long f1]))] := hD
              refine lv_if_eq (tgt := 117) hx hb d_O_isInvalid_100 (by decide) (fun c_100 => ?_) (fun c_100 => ?_)
              · skip
                have c_100 : ¬ (g_R_isNothing p1 f1) = true := b2i_z c_100
                refine lv_iconst (v := 0) hx hb d_O_isInvalid_117 (by decide) ?_
                have hE : g_O_isInvalid cw n1 p1 f1 n2 p2 f2 iop = (false) := by clear hP hD hl hS; unfold g_O_isInvalid; (try dsimp only); rw [if_neg c_3, if_pos c_18, if_neg c_28, if_neg c_41, if_pos c_70, if_neg c_80, if_neg c_100]
                have hP9 : va_P (dC, dI) classes [(aO, .inr (0, [.ref aT, .ref aF, .int cw, .int ts, .ref a1, .ref a2, .ref a3, .ref a4, .ref a5])), (a1, .inr (1, [.int (b2i n1), .int p1, .long f1])), (a2, .inr (1, [.int (b2i n2), .int p2, .long f2]))] H := by exact hP.sub [0, 2, 1] rfl
                have hD9 : va_D A [(aO, .inr (0, [.ref aT, .ref aF, .int cw, .int ts, .ref a1, .ref a2, .ref a3, .ref a4, .ref a5])), (a1, .inr (1, [.int (b2i n1), .int p1, .long f1])), (a2, .inr (1, [.int (b2i n2), .int p2, .long f2]))] := by exact hD.sub [0, 2, 1] (by decide) rfl
                exact W.zret (v := 0) hx hb hr (by first | exact nar_b2i _ | rfl) (fun t ht hW => ⟨⟨0, (), rfl, by rw [hE]; rfl, by rw [ht]; exact hP9, hD9⟩, hS.F ht⟩) hS.2.2 d_O_isInvalid_118
              · skip
                have c_100 : (g_R_isNothing p1 f1) = true := b2i_nz c_100
                refine lv_aload_n hx hb d_O_isInvalid_103 rfl (lv_at hl 1 rfl) ?_
                refine va_get (D := (dC, dI)) (ci := 0) (v := .ref a2) (C := R_O) (T := F_O) (N := 9) hx hb htA in_O hown hK hP 0 rfl rfl 5 (by decide) (htA _ k_105) (fun _ h9 => h9) rfl d_O_isInvalid_104 ?_
                have hPc := hP.sub (ws' := [(a2, .inr (1, [.int (b2i n2), .int p2, .long f2]))]) [1] rfl
                have hDc := hD.sub (ws' := [(a2, .inr (1, [.int (b2i n2), .int p2, .long f2]))]) [1] (by decide) rfl
                have hKc := hK.sub (tys' := []) [] rfl
                have hFc := va_free (wc := [(a2, .inr (1, [.int (b2i n2), .int p2, .long f2]))]) hD hS hA [1] rfl
                refine cc_i (va_runVN (As := []) (rest := []) ⟨hx, hb, hml, hown, htA⟩ (c_R_isInfinite l dC dI a2 H.size n2 p2 f2) ⟨va_cnB 0 htA (gi_code k_28) rfl rfl rfl (hnw _ n_7) (htA _ k_20) (by decide +kernel) ⟨Nat.le_of_ble_eq_true rfl, Nat.le_of_ble_eq_true rfl⟩, htA _ k_109, htA _ k_110⟩ (pre_V hnw hPc hKc hDc (ci := 1) (q0 := 0) rfl rfl) rfl rfl hl.1 rfl (lv_room (Nat.le_of_ble_eq_true rfl)) d_O_isInvalid_107 ⟨Nat.le_of_ble_eq_true rfl, Nat.le_of_ble_eq_true rfl⟩) hS hFc hP hD [1] [0, 2] (wr := [(aO, .inr (0, [.ref aT, .ref aF, .int cw, .int ts, .ref a1, .ref a2, .ref a3, .ref a4, .ref a5])), (a1, .inr (1, [.int (b2i n1), .int p1, .long f1]))]) rfl rfl (by decide) (by decide) (fun H locs hP hD hS => ?_)
                have hP : va_P (dC, dI) classes [(aO, .inr (0, [.ref aT, .ref aF, .int cw, .int ts, .ref a1, .ref a2, .ref a3, .ref a4, .ref a5])), (a1, .inr (1, [.int (b2i n1), .int p1, .long f1])), (a2, .inr (1, [.int (b2i n2), .int p2, .long f2]))] H := hP
                have hD : va_D A [(aO, .inr (0, [.ref aT, .ref aF, .int cw, .int ts, .ref a1, .ref a2, .ref a3, .ref a4, .ref a5])), (a1, .inr (1, [.int (b2i n1), .int p1, .long f1])), (a2, .inr (1, [.int (b2i n2), .int p2, .long f2]))] := hD
                refine lv_if_eq (tgt := 117) hx hb d_O_isInvalid_110 (by decide) (fun c_110 => ?_) (fun c_110 => ?_)
                · skip
                  have c_110 : ¬ (g_R_isInfinite p2 f2) = true := b2i_z c_110
                  refine lv_iconst (v := 0) hx hb d_O_isInvalid_117 (by decide) ?_
                  have hE : g_O_isInvalid cw n1 p1 f1 n2 p2 f2 iop = (false) := by clear hP hD hl hS; unfold g_O_isInvalid; (try dsimp only); rw [if_neg c_3, if_pos c_18, if_neg c_28, if_neg c_41, if_pos c_70, if_neg c_80, if_pos c_100, if_neg c_110]
                  have hP9 : va_P (dC, dI) classes [(aO, .inr (0, [.ref aT, .ref aF, .int cw, .int ts, .ref a1, .ref a2, .ref a3, .ref a4, .ref a5])), (a1, .inr (1, [.int (b2i n1), .int p1, .long f1])), (a2, .inr (1, [.int (b2i n2), .int p2, .long f2]))] H := by exact hP.sub [0, 1, 2] rfl
                  have hD9 : va_D A [(aO, .inr (0, [.ref aT, .ref aF, .int cw, .int ts, .ref a1, .ref a2, .ref a3, .ref a4, .ref a5])), (a1, .inr (1, [.int (b2i n1), .int p1, .long f1])), (a2, .inr (1, [.int (b2i n2), .int p2, .long f2]))] := by exact hD.sub [0, 1, 2] (by decide) rfl
                  exact W.zret (v := 0) hx hb hr (by first | exact nar_b2i _ | rfl) (fun t ht hW => ⟨⟨0, (), rfl, by rw [hE]; rfl, by rw [ht]; exact hP9, hD9⟩, hS.F ht⟩) hS.2.2 d_O_isInvalid_118
                · skip
                  have c_110 : (g_R_isInfinite p2 f2) = true := b2i_nz c_110
                  refine lv_iconst (v := 1) hx hb d_O_isInvalid_113 (by decide) ?_
                  refine lv_goto (tgt := 118) hx hb d_O_isInvalid_114 (by decide) ?_
                  have hE : g_O_isInvalid cw n1 p1 f1 n2 p2 f2 iop = (true) := by clear hP hD hl hS; unfold g_O_isInvalid; (try dsimp only); rw [if_neg c_3, if_pos c_18, if_neg c_28, if_neg c_41, if_pos c_70, if_neg c_80, if_pos c_100, if_pos c_110]
                  have hP9 : va_P (dC, dI) classes [(aO, .inr (0, [.ref aT, .ref aF, .int cw, .int ts, .ref a1, .ref a2, .ref a3, .ref a4, .ref a5])), (a1, .inr (1, [.int (b2i n1), .int p1, .long f1])), (a2, .inr (1, [.int (b2i n2), .int p2, .long f2]))] H := by exact hP.sub [0, 1, 2] rfl
                  have hD9 : va_D A [(aO, .inr (0, [.ref aT, .ref aF, .int cw, .int ts, .ref a1, .ref a2, .ref a3, .ref a4, .ref a5])), (a1, .inr (1, [.int (b2i n1), .int p1, .long f1])), (a2, .inr (1, [.int (b2i n2), .int p2, .long f2]))] := by exact hD.sub [0, 1, 2] (by decide) rfl
                  exact W.zret (v := 1) hx hb hr (by first | exact nar_b2i _ | rfl) (fun t ht hW => ⟨⟨1, (), rfl, by rw [hE]; rfl, by rw [ht]; exact hP9, hD9⟩, hS.F ht⟩) hS.2.2 d_O_isInvalid_118
            · skip
              have c_80 : (g_R_isInfinite p1 f1) = true := b2i_nz c_80
              refine lv_aload_n hx hb d_O_isInvalid_83 rfl (lv_at hl 1 rfl) ?_
              refine va_get (D := (dC, dI)) (ci := 0) (v := .ref a2) (C := R_O) (T := F_O) (N := 9) hx hb htA in_O hown hK hP 0 rfl rfl 5 (by decide) (htA _ k_105) (fun _ h9 => h9) rfl d_O_isInvalid_84 ?_
              have hPc := hP.sub (ws' := [(a2, .inr (1, [.int (b2i n2), .int p2, .long f2]))]) [1] rfl
              have hDc := hD.sub (ws' := [(a2, .inr (1, [.int (b2i n2), .int p2, .long f2]))]) [1] (by decide) rfl
              have hKc := hK.sub (tys' := []) [] rfl
              have hFc := va_free (wc := [(a2, .inr (1, [.int (b2i n2), .int p2, .long f2]))]) hD hS hA [1] rfl
              refine cc_i (va_runVN (As := []) (rest := []) ⟨hx, hb, hml, hown, htA⟩ (c_R_isNothing l dC dI a2 H.size n2 p2 f2) ⟨va_cnB 0 htA (gi_code k_27) rfl rfl rfl (hnw _ n_8) (htA _ k_20) (by decide +kernel) ⟨Nat.le_of_ble_eq_true rfl, Nat.le_of_ble_eq_true rfl⟩, htA _ k_114, htA _ k_115⟩ (pre_V hnw hPc hKc hDc (ci := 1) (q0 := 0) rfl rfl) rfl rfl hl.1 rfl (lv_room (Nat.le_of_ble_eq_true rfl)) d_O_isInvalid_87 ⟨Nat.le_of_ble_eq_true rfl, Nat.le_of_ble_eq_true rfl⟩) hS hFc hP hD [1] [0, 2] (wr := [(aO, .inr (0, [.ref aT, .ref aF, .int cw, .int ts, .ref a1, .ref a2, .ref a3, .ref a4, .ref a5])), (a1, .inr (1, [.int (b2i n1), .int p1, .long f1]))]) rfl rfl (by decide) (by decide) (fun H locs hP hD hS => ?_)
              have hP : va_P (dC, dI) classes [(aO, .inr (0, [.ref aT, .ref aF, .int cw, .int ts, .ref a1, .ref a2, .ref a3, .ref a4, .ref a5])), (a1, .inr (1, [.int (b2i n1), .int p1, .long f1])), (a2, .inr (1, [.int (b2i n2), .int p2, .long f2]))] H := hP
              have hD : va_D A [(aO, .inr (0, [.ref aT, .ref aF, .int cw, .int ts, .ref a1, .ref a2, .ref a3, .ref a4, .ref a5])), (a1, .inr (1, [.int (b2i n1), .int p1, .long f1])), (a2, .inr (1, [.int (b2i n2), .int p2, .long f2]))] := hD
              refine lv_if_ne (tgt := 113) hx hb d_O_isInvalid_90 (by decide) (fun c_90 => ?_) (fun c_90 => ?_)
              · skip
                have c_90 : (g_R_isNothing p2 f2) = true := b2i_nz c_90
                refine lv_iconst (v := 1) hx hb d_O_isInvalid_113 (by decide) ?_
                refine lv_goto (tgt := 118) hx hb d_O_isInvalid_114 (by decide) ?_
                have hE : g_O_isInvalid cw n1 p1 f1 n2 p2 f2 iop = (true) := by clear hP hD hl hS; unfold g_O_isInvalid; (try dsimp only); rw [if_neg c_3, if_pos c_18, if_neg c_28, if_neg c_41, if_pos c_70, if_pos c_80, if_pos c_90]
                have hP9 : va_P (dC, dI) classes [(aO, .inr (0, [.ref aT, .ref aF, .int cw, .int ts, .ref a1, .ref a2, .ref a3, .ref a4, .ref a5])), (a1, .inr (1, [.int (b2i n1), .int p1, .long f1])), (a2, .inr (1, [.int (b2i n2), .int p2, .long f2]))] H := by exact hP.sub [0, 1, 2] rfl
                have hD9 : va_D A [(aO, .inr (0, [.ref aT, .ref aF, .int cw, .int ts, .ref a1, .ref a2, .ref a3, .ref a4, .ref a5])), (a1, .inr (1, [.int (b2i n1), .int p1, .long f1])), (a2, .inr (1, [.int (b2i n2), .int p2, .long f2]))] := by exact hD.sub [0, 1, 2] (by decide) rfl
                exact W.zret (v := 1) hx hb hr (by first | exact nar_b2i _ | rfl) (fun t ht hW => ⟨⟨1, (), rfl, by rw [hE]; rfl, by rw [ht]; exact hP9, hD9⟩, hS.F ht⟩) hS.2.2 d_O_isInvalid_118
              · skip
                have c_90 : ¬ (g_R_isNothing p2 f2) = true := b2i_z c_90
                refine lv_aload_n hx hb d_O_isInvalid_93 rfl (lv_at hl 1 rfl) ?_
                refine va_get (D := (dC, dI)) (ci := 0) (v := .ref a1) (C := R_O) (T := F_O) (N := 9) hx hb htA in_O hown hK hP 0 rfl rfl 4 (by decide) (htA _ k_104) (fun _ h9 => h9) rfl d_O_isInvalid_94 ?_
                have hPc := hP.sub (ws' := [(a1, .inr (1, [.int (b2i n1), .int p1, .long f1]))]) [1] rfl
                have hDc := hD.sub (ws' := [(a1, .inr (1, [.int (b2i n1), .int p1, .long f1]))]) [1] (by decide) rfl
                have hKc := hK.sub (tys' := []) [] rfl
                have hFc := va_free (wc := [(a1, .inr (1, [.int (b2i n1), .int p1, .long f1]))]) hD hS hA [1] rfl
                refine cc_i (va_runVN (As := []) (rest := []) ⟨hx, hb, hml, hown, htA⟩ (c_R_isNothing l dC dI a1 H.size n1 p1 f1) ⟨va_cnB 0 htA (gi_code k_27) rfl rfl rfl (hnw _ n_8) (htA _ k_20) (by decide +kernel) ⟨Nat.le_of_ble_eq_true rfl, Nat.le_of_ble_eq_true rfl⟩, htA _ k_114, htA _ k_115⟩ (pre_V hnw hPc hKc hDc (ci := 1) (q0 := 0) rfl rfl) rfl rfl hl.1 rfl (lv_room (Nat.le_of_ble_eq_true rfl)) d_O_isInvalid_97 ⟨Nat.le_of_ble_eq_true rfl, Nat.le_of_ble_eq_true rfl⟩) hS hFc hP hD [1] [0, 2] (wr := [(aO, .inr (0, [.ref aT, .ref aF, .int cw, .int ts, .ref a1, .ref a2, .ref a3, .ref a4, .ref a5])), (a2, .inr (1, [.int (b2i n2), .int p2, .long f2]))]) rfl rfl (by decide) (by decide) (fun H locs hP hD hS => ?_)
                have hP : va_P (dC, dI) classes [(aO, .inr (0, [.ref aT, .ref aF, .int cw, .int ts, .ref a1, .ref a2, .ref a3, .ref a4, .ref a5])), (a2, .inr (1, [.int (b2i n2), .int p2, .long f2])), (a1, .inr (1, [.int (b2i n1), .int p1, .long f1]))] H := hP
                have hD : va_D A [(aO, .inr (0, [.ref aT, .ref aF, .int cw, .int ts, .ref a1, .ref a2, .ref a3, .ref a4, .ref a5])), (a2, .inr (1, [.int (b2i n2), .int p2, .long f2])), (a1, .inr (1, [.int (b2i n1), .int p1, .long f1]))] := hD
                refine lv_if_eq (tgt := 117) hx hb d_O_isInvalid_100 (by decide) (fun c_100 => ?_) (fun c_100 => ?_)
                · skip
                  have c_100 : ¬ (g_R_isNothing p1 f1) = true := b2i_z c_100
                  refine lv_iconst (v := 0) hx hb d_O_isInvalid_117 (by decide) ?_
                  have hE : g_O_isInvalid cw n1 p1 f1 n2 p2 f2 iop = (false) := by clear hP hD hl hS; unfold g_O_isInvalid; (try dsimp only); rw [if_neg c_3, if_pos c_18, if_neg c_28, if_neg c_41, if_pos c_70, if_pos c_80, if_neg c_90, if_neg c_100]
                  have hP9 : va_P (dC, dI) classes [(aO, .inr (0, [.ref aT, .ref aF, .int cw, .int ts, .ref a1, .ref a2, .ref a3, .ref a4, .ref a5])), (a1, .inr (1, [.int (b2i n1), .int p1, .long f1])), (a2, .inr (1, [.int (b2i n2), .int p2, .long f2]))] H := by exact hP.sub [0, 2, 1] rfl
                  have hD9 : va_D A [(aO, .inr (0, [.ref aT, .ref aF, .int cw, .int ts, .ref a1, .ref a2, .ref a3, .ref a4, .ref a5])), (a1, .inr (1, [.int (b2i n1), .int p1, .long f1])), (a2, .inr (1, [.int (b2i n2), .int p2, .long f2]))] := by exact hD.sub [0, 2, 1] (by decide) rfl
                  exact W.zret (v := 0) hx hb hr (by first | exact nar_b2i _ | rfl) (fun t ht hW => ⟨⟨0, (), rfl, by rw [hE]; rfl, by rw [ht]; exact hP9, hD9⟩, hS.F ht⟩) hS.2.2 d_O_isInvalid_118
                · skip
                  have c_100 : (g_R_isNothing p1 f1) = true := b2i_nz c_100
                  refine lv_aload_n hx hb d_O_isInvalid_103 rfl (lv_at hl 1 rfl) ?_
                  refine va_get (D := (dC, dI)) (ci := 0) (v := .ref a2) (C := R_O) (T := F_O) (N := 9) hx hb htA in_O hown hK hP 0 rfl rfl 5 (by decide) (htA _ k_105) (fun _ h9 => h9) rfl d_O_isInvalid_104 ?_
                  have hPc := hP.sub (ws' := [(a2, .inr (1, [.int (b2i n2), .int p2, .long f2]))]) [1] rfl
                  have hDc := hD.sub (ws' := [(a2, .inr (1, [.int (b2i n2), .int p2, .long f2]))]) [1] (by decide) rfl
                  have hKc := hK.sub (tys' := []) [] rfl
                  have hFc := va_free (wc := [(a2, .inr (1, [.int (b2i n2), .int p2, .long f2]))]) hD hS hA [1] rfl
                  refine cc_i (va_runVN (As := []) (rest := []) ⟨hx, hb, hml, hown, htA⟩ (c_R_isInfinite l dC dI a2 H.size n2 p2 f2) ⟨va_cnB 0 htA (gi_code k_28) rfl rfl rfl (hnw _ n_7) (htA _ k_20) (by decide +kernel) ⟨Nat.le_of_ble_eq_true rfl, Nat.le_of_ble_eq_true rfl⟩, htA _ k_109, htA _ k_110⟩ (pre_V hnw hPc hKc hDc (ci := 1) (q0 := 0) rfl rfl) rfl rfl hl.1 rfl (lv_room (Nat.le_of_ble_eq_true rfl)) d_O_isInvalid_107 ⟨Nat.le_of_ble_eq_true rfl, Nat.le_of_ble_eq_true rfl⟩) hS hFc hP hD [1] [0, 2] (wr := [(aO, .inr (0, [.ref aT, .ref aF, .int cw, .int ts, .ref a1, .ref a2, .ref a3, .ref a4, .ref a5])), (a1, .inr (1, [.int (b2i n1), .int p1, .long f1]))]) rfl rfl (by decide) (by decide) (fun H locs hP hD hS => ?_)
                  have hP : va_P (dC, dI) classes [(aO, .inr (0, [.ref aT, .ref aF, .int cw, .int ts, .ref a1, .ref a2, .ref a3, .ref a4, .ref a5])), (a1, .inr (1, [.int (b2i n1), .int p1, .long f1])), (a2, .inr (1, [.int (b2i n2), .int p2, .long f2]))] H := hP
                  have hD : va_D A [(aO, .inr (0, [.ref aT, .ref aF, .int cw, .int ts, .ref a1, .ref a2, .ref a3, .ref a4, .ref a5])), (a1, .inr (1, [.int (b2i n1), .int p1, .long f1])), (a2, .inr (1, [.int (b2i n2), .int p2, .long f2]))] := hD
                  refine lv_if_eq (tgt := 117) hx hb d_O_isInvalid_110 (by decide) (fun c_110 => ?_) (fun c_110 => ?_)
                  · skip
                    have c_110 : ¬ (g_R_isInfinite p2 f2) = true := b2i_z c_110
                    refine lv_iconst (v := 0) hx hb d_O_isInvalid_117 (by decide) ?_
                    have hE : g_O_isInvalid cw n1 p1 f1 n2 p2 f2 iop = (false) := by clear hP hD hl hS; unfold g_O_isInvalid; (try dsimp only); rw [if_neg c_3, if_pos c_18, if_neg c_28, if_neg c_41, if_pos c_70, if_pos c_80, if_neg c_90, if_pos c_100, if_neg c_110]
                    have hP9 : va_P (dC, dI) classes [(aO, .inr (0, [.ref aT, .ref aF, .int cw, .int ts, .ref a1, .ref a2, .ref a3, .ref a4, .ref a5])), (a1, .inr (1, [.int (b2i n1), .int p1, .long f1])), (a2, .inr (1, [.int (b2i n2), .int p2, .long f2]))] H := by exact hP.sub [0, 1, 2] rfl
                    have hD9 : va_D A [(aO, .inr (0, [.ref aT, .ref aF, .int cw, .int ts, .ref a1, .ref a2, .ref a3, .ref a4, .ref a5])), (a1, .inr (1, [.int (b2i n1), .int p1, .long f1])), (a2, .inr (1, [.int (b2i n2), .int p2, .long f2]))] := by exact hD.sub [0, 1, 2] (by decide) rfl
                    exact W.zret (v := 0) hx hb hr (by first | exact nar_b2i _ | rfl) (fun t ht hW => ⟨⟨0, (), rfl, by rw [hE]; rfl, by rw [ht]; exact hP9, hD9⟩, hS.F ht⟩) hS.2.2 d_O_isInvalid_118
                  · skip
                    have c_110 : (g_R_isInfinite p2 f2) = true := b2i_nz c_110
                    refine lv_iconst (v := 1) hx hb d_O_isInvalid_113 (by decide) ?_
                    refine lv_goto (tgt := 118) hx hb d_O_isInvalid_114 (by decide) ?_
                    have hE : g_O_isInvalid cw n1 p1 f1 n2 p2 f2 iop = (true) := by clear hP hD hl hS; unfold g_O_isInvalid; (try dsimp only); rw [if_neg c_3, if_pos c_18, if_neg c_28, if_neg c_41, if_pos c_70, if_pos c_80, if_neg c_90, if_pos c_100, if_pos c_110]
                    have hP9 : va_P (dC, dI) classes [(aO, .inr (0, [.ref aT, .ref aF, .int cw, .int ts, .ref a1, .ref a2, .ref a3, .ref a4, .ref a5])), (a1, .inr (1, [.int (b2i n1), .int p1, .long f1])), (a2, .inr (1, [.int (b2i n2), .int p2, .long f2]))] H := by exact hP.sub [0, 1, 2] rfl
                    have hD9 : va_D A [(aO, .inr (0, [.ref aT, .ref aF, .int cw, .int ts, .ref a1, .ref a2, .ref a3, .ref a4, .ref a5])), (a1, .inr (1, [.int (b2i n1), .int p1, .long f1])), (a2, .inr (1, [.int (b2i n2), .int p2, .long f2]))] := by exact hD.sub [0, 1, 2] (by decide) rfl
                    exact W.zret (v := 1) hx hb hr (by first | exact nar_b2i _ | rfl) (fun t ht hW => ⟨⟨1, (), rfl, by rw [hE]; rfl, by rw [ht]; exact hP9, hD9⟩, hS.F ht⟩) hS.2.2 d_O_isInvalid_118
        · skip
          have c_41 : (g_O_isSum iop) = true := b2i_nz c_41
          refine lv_iload_n hx hb d_O_isInvalid_44 rfl (lv_at hl 0 rfl) ?_
          refine lv_if_eq (tgt := 66) hx hb d_O_isInvalid_45 (by decide) (fun _ => ?_) (fun c_45 => absurd c_45 (by decide))
          refine lv_iconst (v := 0) hx hb d_O_isInvalid_66 (by decide) ?_
          have hE : g_O_isInvalid cw n1 p1 f1 n2 p2 f2 iop = (false) := by clear hP hD hl hS; unfold g_O_isInvalid; (try dsimp only); rw [if_neg c_3, if_pos c_18, if_neg c_28, if_pos c_41]
          have hP9 : va_P (dC, dI) classes [(aO, .inr (0, [.ref aT, .ref aF, .int cw, .int ts, .ref a1, .ref a2, .ref a3, .ref a4, .ref a5])), (a1, .inr (1, [.int (b2i n1), .int p1, .long f1])), (a2, .inr (1, [.int (b2i n2), .int p2, .long f2]))] H := by exact hP.sub [0, 1, 2] rfl
          have hD9 : va_D A [(aO, .inr (0, [.ref aT, .ref aF, .int cw, .int ts, .ref a1, .ref a2, .ref a3, .ref a4, .ref a5])), (a1, .inr (1, [.int (b2i n1), .int p1, .long f1])), (a2, .inr (1, [.int (b2i n2), .int p2, .long f2]))] := by exact hD.sub [0, 1, 2] (by decide) rfl
          exact W.zret (v := 0) hx hb hr (by first | exact nar_b2i _ | rfl) (fun t ht hW => ⟨⟨0, (), rfl, by rw [hE]; rfl, by rw [ht]; exact hP9, hD9⟩, hS.F ht⟩) hS.2.2 d_O_isInvalid_67
      · skip
        have c_28 : (g_R_isInfinite p2 f2) = true := b2i_nz c_28
        refine lv_iconst (v := 1) hx hb d_O_isInvalid_31 (by decide) ?_
        refine lv_goto (tgt := 36) hx hb d_O_isInvalid_32 (by decide) ?_
        refine lv_istore_n (lv' := [(2, .int 1), (0, .ref aO), (1, .int iop)]) hx hb d_O_isInvalid_36 rfl hl (by decide) rfl (fun ls hl => ?_)
        refine lv_iload_n hx hb d_O_isInvalid_37 rfl (lv_at hl 2 rfl) ?_
        have hPc := hP.sub (ws' := []) [] rfl
        have hDc := hD.sub (ws' := []) [] (by decide) rfl
        have hKc := hK.sub (tys' := []) [] rfl
        have hFc := va_free (wc := []) hD hS hA [] rfl
        refine cc_i (va_runS (As := [.int iop]) (rest := []) ⟨hx, hb, hml, hown, htA⟩ (c_O_isSum l dC dI H.size iop) (va_cwS 1 htA (gi_S k_117 k_118 k_90 (gi_code k_93)) rfl rfl rfl (by decide +kernel) ⟨Nat.le_of_ble_eq_true rfl, Nat.le_of_ble_eq_true rfl⟩) (pre_S hnw hPc hKc hDc) rfl rfl hl.1 rfl (lv_room (Nat.le_of_ble_eq_true rfl)) d_O_isInvalid_38 ⟨Nat.le_of_ble_eq_true rfl, Nat.le_of_ble_eq_true rfl⟩) hS hFc hP hD [] [0, 1, 2] (wr := [(aO, .inr (0, [.ref aT, .ref aF, .int cw, .int ts, .ref a1, .ref a2, .ref a3, .ref a4, .ref a5])), (a1, .inr (1, [.int (b2i n1), .int p1, .long f1])), (a2, .inr (1, [.int (b2i n2), .int p2, .long f2]))]) rfl rfl (by decide) (by decide) (fun H locs hP hD hS => ?_)
        have hP : va_P (dC, dI) classes [(aO, .inr (0, [.ref aT, .ref aF, .int cw, .int ts, .ref a1, .ref a2, .ref a3, .ref a4, .ref a5])), (a1, .inr (1, [.int (b2i n1), .int p1, .long f1])), (a2, .inr (1, [.int (b2i n2), .int p2, .long f2]))] H := hP
        have hD : va_D A [(aO, .inr (0, [.ref aT, .ref aF, .int cw, .int ts, .ref a1, .ref a2, .ref a3, .ref a4, .ref a5])), (a1, .inr (1, [.int (b2i n1), .int p1, .long f1])), (a2, .inr (1, [.int (b2i n2), .int p2, .long f2]))] := hD
        refine lv_if_eq (tgt := 68) hx hb d_O_isInvalid_41 (by decide) (fun c_41 => ?_) (fun c_41 => ?_)
        · skip
          have c_41 : ¬ (g_O_isSum iop) = true := b2i_z c_41
          refine lv_iload_n hx hb d_O_isInvalid_68 rfl (lv_at hl 2 rfl) ?_
          refine lv_iconst (v := 3) hx hb d_O_isInvalid_69 (by decide) ?_
          refine lv_icmp_ne (tgt := 119) hx hb d_O_isInvalid_70 (by decide) (fun c_70 => ?_) (fun c_70 => ?_)
          · skip
            refine lv_iload_n hx hb d_O_isInvalid_119 rfl (lv_at hl 0 rfl) ?_
            refine lv_if_ne (tgt := 153) hx hb d_O_isInvalid_120 (by decide) (fun _ => ?_) (fun c_120 => absurd c_120 (by decide))
            refine lv_iconst (v := 1) hx hb d_O_isInvalid_153 (by decide) ?_
            refine lv_goto (tgt := 158) hx hb d_O_isInvalid_154 (by decide) ?_
            have hE : g_O_isInvalid cw n1 p1 f1 n2 p2 f2 iop = (true) := by clear hP hD hl hS; unfold g_O_isInvalid; (try dsimp only); rw [if_neg c_3, if_pos c_18, if_pos c_28, if_neg c_41, if_neg c_70]
            have hP9 : va_P (dC, dI) classes [(aO, .inr (0, [.ref aT, .ref aF, .int cw, .int ts, .ref a1, .ref a2, .ref a3, .ref a4, .ref a5])), (a1, .inr (1, [.int (b2i n1), .int p1, .long f1])), (a2, .inr (1, [.int (b2i n2), .int p2, .long f2]))] H := by exact hP.sub [0, 1, 2] rfl
            have hD9 : va_D A [(aO, .inr (0, [.ref aT, .ref aF, .int cw, .int ts, .ref a1, .ref a2, .ref a3, .ref a4, .ref a5])), (a1, .inr (1, [.int (b2i n1), .int p1, .long f1])), (a2, .inr (1, [.int (b2i n2), .int p2, .long f2]))] := by exact hD.sub [0, 1, 2] (by decide) rfl
            exact W.zret (v := 1) hx hb hr (by first | exact nar_b2i _ | rfl) (fun t ht hW => ⟨⟨1, (), rfl, by rw [hE]; rfl, by rw [ht]; exact hP9, hD9⟩, hS.F ht⟩) hS.2.2 d_O_isInvalid_158
          · skip
            refine lv_aload_n hx hb d_O_isInvalid_73 rfl (lv_at hl 1 rfl) ?_
            refine va_get (D := (dC, dI)) (ci := 0) (v := .ref a1) (C := R_O) (T := F_O) (N := 9) hx hb htA in_O hown hK hP 0 rfl rfl 4 (by decide) (htA _ k_104) (fun _ h9 => h9) rfl d_O_isInvalid_74 ?_
            have hPc := hP.sub (ws' := [(a1, .inr (1, [.int (b2i n1), .int p1, .long f1]))]) [1] rfl
            have hDc := hD.sub (ws' := [(a1, .inr (1, [.int (b2i n1), .int p1, .long f1]))]) [1] (by decide) rfl
            have hKc := hK.sub (tys' := []) [] rfl
            have hFc := va_free (wc := [(a1, .inr (1, [.int (b2i n1), .int p1, .long f1]))]) hD hS hA [1] rfl
            refine cc_i (va_runVN (As := []) (rest := []) ⟨hx, hb, hml, hown, htA⟩ (c_R_isInfinite l dC dI a1 H.size n1 p1 f1) ⟨va_cnB 0 htA (gi_code k_28) rfl rfl rfl (hnw _ n_7) (htA _ k_20) (by decide +kernel) ⟨Nat.le_of_ble_eq_true rfl, Nat.le_of_ble_eq_true rfl⟩, htA _ k_109, htA _ k_110⟩ (pre_V hnw hPc hKc hDc (ci := 1) (q0 := 0) rfl rfl) rfl rfl hl.1 rfl (lv_room (Nat.le_of_ble_eq_true rfl)) d_O_isInvalid_77 ⟨Nat.le_of_ble_eq_true rfl, Nat.le_of_ble_eq_true rfl⟩) hS hFc hP hD [1] [0, 2] (wr := [(aO, .inr (0, [.ref aT, .ref aF, .int cw, .int ts, .ref a1, .ref a2, .ref a3, .ref a4, .ref a5])), (a2, .inr (1, [.int (b2i n2), .int p2, .long f2]))]) rfl rfl (by decide) (by decide) (fun H locs hP hD hS => ?_)
            have hP : va_P (dC, dI) classes [(aO, .inr (0, [.ref aT, .ref aF, .int cw, .int ts, .ref a1, .ref a2, .ref a3, .ref a4, .ref a5])), (a2, .inr (1, [.int (b2i n2), .int p2, .long f2])), (a1, .inr (1, [.int (b2i n1), .int p1, .long f1]))] H := hP
            have hD : va_D A [(aO, .inr (0, [.ref aT, .ref aF, .int cw, .int ts, .ref a1, .ref a2, .ref a3, .ref a4, .ref a5])), (a2, .inr (1, [.int (b2i n2), .int p2, .long f2])), (a1, .inr (1, [.int (b2i n1), .int p1, .long f1]))] := hD
            refine lv_if_eq (tgt := 93) hx hb d_O_isInvalid_80 (by decide) (fun c_80 => ?_) (fun c_80 => ?_)
            · skip
              have c_80 : ¬ (g_R_isInfinite p1 f1) = true := b2i_z c_80
              refine lv_aload_n hx hb d_O_isInvalid_93 rfl (lv_at hl 1 rfl) ?_
              refine va_get (D := (dC, dI)) (ci := 0) (v := .ref a1) (C := R_O) (T := F_O) (N := 9) hx hb htA in_O hown hK hP 0 rfl rfl 4 (by decide) (htA _ k_104) (fun _ h9 => h9) rfl d_O_isInvalid_94 ?_
              have hPc := hP.sub (ws' := [(a1, .inr (1, [.int (b2i n1), .int p1, .long f1]))]) [2] rfl
              have hDc := hD.sub (ws' := [(a1, .inr (1, [.int (b2i n1), .int p1, .long f1]))]) [2] (by decide) rfl
              have hKc := hK.sub (tys' := []) [] rfl
              have hFc := va_free (wc := [(a1, .inr (1, [.int (b2i n1), .int p1, .long f1]))]) hD hS hA [2] rfl
              refine cc_i (va_runVN (As := []) (rest := []) ⟨hx, hb, hml, hown, htA⟩ (c_R_isNothing l dC dI a1 H.size n1 p1 f1) ⟨va_cnB 0 htA (gi_code k_27) rfl rfl rfl (hnw _ n_8) (htA _ k_20) (by decide +kernel) ⟨Nat.le_of_ble_eq_true rfl, Nat.le_of_ble_eq_true rfl⟩, htA _ k_114, htA _ k_115⟩ (pre_V hnw hPc hKc hDc (ci := 1) (q0 := 0) rfl rfl) rfl rfl hl.1 rfl (lv_room (Nat.le_of_ble_eq_true rfl)) d_O_isInvalid_97 ⟨Nat.le_of_ble_eq_true rfl, Nat.le_of_ble_eq_true rfl⟩) hS hFc hP hD [2] [0, 1] (wr := [(aO, .inr (0, [.ref aT, .ref aF, .int cw, .int ts, .ref a1, .ref a2, .ref a3, .ref a4, .ref a5])), (a2, .inr (1, [.int (b2i n2), .int p2, .long f2]))]) rfl rfl (by decide) (by decide) (fun H locs hP hD hS => ?_)
              have hP : va_P (dC, dI) classes [(aO, .inr (0, [.ref aT, .ref aF, .int cw, .int ts, .ref a1, .ref a2, .ref a3, .ref a4, .ref a5])), (a2, .inr (1, [.int (b2i n2), .int p2, .long f2])), (a1, .inr (1, [.int (b2i n1), .int p1, .long f1]))] H := hP
              have hD : va_D A [(aO, .inr (0, [.ref aT, .ref aF, .int cw, .int ts, .ref a1, .ref a2, .ref a3, .ref a4, .ref a5])), (a2, .inr (1, [.int (b2i n2), .int p2, .long f2])), (a1, .inr (1, [.int (b2i n1), .int p1, .long f1]))] := hD
              refine lv_if_eq (tgt := 117) hx hb d_O_isInvalid_100 (by decide) (fun c_100 => ?_) (fun c_100 => ?_)
              · skip
                have c_100 : ¬ (g_R_isNothing p1 f1) = true := b2i_z c_100
                refine lv_iconst (v := 0) hx hb d_O_isInvalid_117 (by decide) ?_
                have hE : g_O_isInvalid cw n1 p1 f1 n2 p2 f2 iop = (false) := by clear hP hD hl hS; unfold g_O_isInvalid; (try dsimp only); rw [if_neg c_3, if_pos c_18, if_pos c_28, if_neg c_41, if_pos c_70, if_neg c_80, if_neg c_100]
                have hP9 : va_P (dC, dI) classes [(aO, .inr (0, [.ref aT, .ref aF, .int cw, .int ts, .ref a1, .ref a2, .ref a3, .ref a4, .ref a5])), (a1, .inr (1, [.int (b2i n1), .int p1, .long f1])), (a2, .inr (1, [.int (b2i n2), .int p2, .long f2]))] H := by exact hP.sub [0, 2, 1] rfl
                have hD9 : va_D A [(aO, .inr (0, [.ref aT, .ref aF, .int cw, .int ts, .ref a1, .ref a2, .ref a3, .ref a4, .ref a5])), (a1, .inr (1, [.int (b2i n1), .int p1, .long f1])), (a2, .inr (1, [.int (b2i n2), .int p2, .long f2]))] := by exact hD.sub [0, 2, 1] (by decide) rfl
                exact W.zret (v := 0) hx hb hr (by first | exact nar_b2i _ | rfl) (fun t ht hW => ⟨⟨0, (), rfl, by rw [hE]; rfl, by rw [ht]; exact hP9, hD9⟩, hS.F ht⟩) hS.2.2 d_O_isInvalid_118
              · skip
                have c_100 : (g_R_isNothing p1 f1) = true := b2i_nz c_100
                refine lv_aload_n hx hb d_O_isInvalid_103 rfl (lv_at hl 1 rfl) ?_
                refine va_get (D := (dC, dI)) (ci := 0) (v := .ref a2) (C := R_O) (T := F_O) (N := 9) hx hb htA in_O hown hK hP 0 rfl rfl 5 (by decide) (htA _ k_105) (fun _ h9 => h9) rfl d_O_isInvalid_104 ?_
                have hPc := hP.sub (ws' := [(a2, .inr (1, [.int (b2i n2), .int p2, .long f2]))]) [1] rfl
                have hDc := hD.sub (ws' := [(a2, .inr (1, [.int (b2i n2), .int p2, .long f2]))]) [1] (by decide) rfl
                have hKc := hK.sub (tys' := []) [] rfl
                have hFc := va_free (wc := [(a2, .inr (1, [.int (b2i n2), .int p2, .long f2]))]) hD hS hA [1] rfl
                refine cc_i (va_runVN (As := []) (rest := []) ⟨hx, hb, hml, hown, htA⟩ (c_R_isInfinite l dC dI a2 H.size n2 p2 f2) ⟨va_cnB 0 htA (gi_code k_28) rfl rfl rfl (hnw _ n_7) (htA _ k_20) (by decide +kernel) ⟨Nat.le_of_ble_eq_true rfl, Nat.le_of_ble_eq_true rfl⟩, htA _ k_109, htA _ k_110⟩ (pre_V hnw hPc hKc hDc (ci := 1) (q0 := 0) rfl rfl) rfl rfl hl.1 rfl (lv_room (Nat.le_of_ble_eq_true rfl)) d_O_isInvalid_107 ⟨Nat.le_of_ble_eq_true rfl, Nat.le_of_ble_eq_true rfl⟩) hS hFc hP hD [1] [0, 2] (wr := [(aO, .inr (0, [.ref aT, .ref aF, .int cw, .int ts, .ref a1, .ref a2, .ref a3, .ref a4, .ref a5])), (a1, .inr (1, [.int (b2i n1), .int p1, .long f1]))]) rfl rfl (by decide) (by decide) (fun H locs hP hD hS => ?_)
                have hP : va_P (dC, dI) classes [(aO, .inr (0, [.ref aT, .ref aF, .int cw, .int ts, .ref a1, .ref a2, .ref a3, .ref a4, .ref a5])), (a1, .inr (1, [.int (b2i n1), .int p1, .long f1])), (a2, .inr (1, [.int (b2i n2), .int p2, .long f2]))] H := hP
                have hD : va_D A [(aO, .inr (0, [.ref aT, .ref aF, .int cw, .int ts, .ref a1, .ref a2, .ref a3, .ref a4, .ref a5])), (a1, .inr (1, [.int (b2i n1), .int p1, .long f1])), (a2, .inr (1, [.int (b2i n2), .int p2, .long f2]))] := hD
                refine lv_if_eq (tgt := 117) hx hb d_O_isInvalid_110 (by decide) (fun c_110 => ?_) (fun c_110 => ?_)
                · skip
                  have c_110 : ¬ (g_R_isInfinite p2 f2) = true := b2i_z c_110
                  refine lv_iconst (v := 0) hx hb d_O_isInvalid_117 (by decide) ?_
                  have hE : g_O_isInvalid cw n1 p1 f1 n2 p2 f2 iop = (false) := by clear hP hD hl hS; unfold g_O_isInvalid; (try dsimp only); rw [if_neg c_3, if_pos c_18, if_pos c_28, if_neg c_41, if_pos c_70, if_neg c_80, if_pos c_100, if_neg c_110]
                  have hP9 : va_P (dC, dI) classes [(aO, .inr (0, [.ref aT, .ref aF, .int cw, .int ts, .ref a1, .ref a2, .ref a3, .ref a4, .ref a5])), (a1, .inr (1, [.int (b2i n1), .int p1, .long f1])), (a2, .inr (1, [.int (b2i n2), .int p2, .long f2]))] H := by exact hP.sub [0, 1, 2] rfl
                  have hD9 : va_D A [(aO, .inr (0, [.ref aT, .ref aF, .int cw, .int ts, .ref a1, .ref a2, .ref a3, .ref a4, .ref a5])), (a1, .inr (1, [.int (b2i n1), .int p1, .long f1])), (a2, .inr (1, [.int (b2i n2), .int p2, .long f2]))] := by exact hD.sub [0, 1, 2] (by decide) rfl
                  exact W.zret (v := 0) hx hb hr (by first | exact nar_b2i _ | rfl) (fun t ht hW => ⟨⟨0, (), rfl, by rw [hE]; rfl, by rw [ht]; exact hP9, hD9⟩, hS.F ht⟩) hS.2.2 d_O_isInvalid_118
                · skip
                  have c_110 : (g_R_isInfinite p2 f2) = true := b2i_nz c_110
                  refine lv_iconst (v := 1) hx hb d_O_isInvalid_113 (by decide) ?_
                  refine lv_goto (tgt := 118) hx hb d_O_isInvalid_114 (by decide) ?_
                  have hE : g_O_isInvalid cw n1 p1 f1 n2 p2 f2 iop = (true) := by clear hP hD hl hS; unfold g_O_isInvalid; (try dsimp only); rw [if_neg c_3, if_pos c_18, if_pos c_28, if_neg c_41, if_pos c_70, if_neg c_80, if_pos c_100, if_pos c_110]
                  have hP9 : va_P (dC, dI) classes [(aO, .inr (0, [.ref aT, .ref aF, .int cw, .int ts, .ref a1, .ref a2, .ref a3, .ref a4, .ref a5])), (a1, .inr (1, [.int (b2i n1), .int p1, .long f1])), (a2, .inr (1, [.int (b2i n2), .int p2, .long f2]))] H := by exact hP.sub [0, 1, 2] rfl
                  have hD9 : va_D A [(aO, .inr (0, [.ref aT, .ref aF, .int cw, .int ts, .ref a1, .ref a2, .ref a3, .ref a4, .ref a5])), (a1, .inr (1, [.int (b2i n1), .int p1, .long f1])), (a2, .inr (1, [.int (b2i n2), .int p2, .long f2]))] := by exact hD.sub [0, 1, 2] (by decide) rfl
                  exact W.zret (v := 1) hx hb hr (by first | exact nar_b2i _ | rfl) (fun t ht hW => ⟨⟨1, (), rfl, by rw [hE]; rfl, by rw [ht]; exact hP9, hD9⟩, hS.F ht⟩) hS.2.2 d_O_isInvalid_118
            · skip
              have c_80 : (g_R_isInfinite p1 f1) = true := b2i_nz c_80
              refine lv_aload_n hx hb d_O_isInvalid_83 rfl (lv_at hl 1 rfl) ?_
              refine va_get (D := (dC, dI)) (ci := 0) (v := .ref a2) (C := R_O) (T := F_O) (N := 9) hx hb htA in_O hown hK hP 0 rfl rfl 5 (by decide) (htA _ k_105) (fun _ h9 => h9) rfl d_O_isInvalid_84 ?_
              have hPc := hP.sub (ws' := [(a2, .inr (1, [.int (b2i n2), .int p2, .long f2]))]) [1] rfl
              have hDc := hD.sub (ws' := [(a2, .inr (1, [.int (b2i n2), .int p2, .long f2]))]) [1] (by decide) rfl
              have hKc := hK.sub (tys' := []) [] rfl
              have hFc := va_free (wc := [(a2, .inr (1, [.int (b2i n2), .int p2, .long f2]))]) hD hS hA [1] rfl
              refine cc_i (va_runVN (As := []) (rest := []) ⟨hx, hb, hml, hown, htA⟩ (c_R_isNothing l dC dI a2 H.size n2 p2 f2) ⟨va_cnB 0 htA (gi_code k_27) rfl rfl rfl (hnw _ n_8) (htA _ k_20) (by decide +kernel) ⟨Nat.le_of_ble_eq_true rfl, Nat.le_of_ble_eq_true rfl⟩, htA _ k_114, htA _ k_115⟩ (pre_V hnw hPc hKc hDc (ci := 1) (q0 := 0) rfl rfl) rfl rfl hl.1 rfl (lv_room (Nat.le_of_ble_eq_true rfl)) d_O_isInvalid_87 ⟨Nat.le_of_ble_eq_true rfl, Nat.le_of_ble_eq_true rfl⟩) hS hFc hP hD [1] [0, 2] (wr := [(aO, .inr (0, [.ref aT, .ref aF, .int cw, .int ts, .ref a1, .ref a2, .ref a3, .ref a4, .ref a5])), (a1, .inr (1, [.int (b2i n1), .int p1, .long f1]))]) rfl rfl (by decide) (by decide) (fun H locs hP hD hS => ?_)
              have hP : va_P (dC, dI) classes [(aO, .inr (0, [.ref aT, .ref aF, .int cw, .int ts, .ref a1, .ref a2, .ref a3, .ref a4, .ref a5])), (a1, .inr (1, [.int (b2i n1), .int p1, .long f1])), (a2, .inr (1, [.int (b2i n2), .int p2, .long f2]))] H := hP
              have hD : va_D A [(aO, .inr (0, [.ref aT, .ref aF, .int cw, .int ts, .ref a1, .ref a2, .ref a3, .ref a4, .ref a5])), (a1, .inr (1, [.int (b2i n1), .int p1, .long f1])), (a2, .inr (1, [.int (b2i n2), .int p2, .long f2]))] := hD
              refine lv_if_ne (tgt := 113) hx hb d_O_isInvalid_90 (by decide) (fun c_90 => ?_) (fun c_90 => ?_)
              · skip
                have c_90 : (g_R_isNothing p2 f2) = true := b2i_nz c_90
                refine lv_iconst (v := 1) hx hb d_O_isInvalid_113 (by decide) ?_
                refine lv_goto (tgt := 118) hx hb d_O_isInvalid_114 (by decide) ?_
                have hE : g_O_isInvalid cw n1 p1 f1 n2 p2 f2 iop = (true) := by clear hP hD hl hS; unfold g_O_isInvalid; (try dsimp only); rw [if_neg c_3, if_pos c_18, if_pos c_28, if_neg c_41, if_pos c_70, if_pos c_80, if_pos c_90]
                have hP9 : va_P (dC, dI) classes [(aO, .inr (0, [.ref aT, .ref aF, .int cw, .int ts, .ref a1, .ref a2, .ref a3, .ref a4, .ref a5])), (a1, .inr (1, [.int (b2i n1), .int p1, .long f1])), (a2, .inr (1, [.int (b2i n2), .int p2, .long f2]))] H := by exact hP.sub [0, 1, 2] rfl
                have hD9 : va_D A [(aO, .inr (0, [.ref aT, .ref aF, .int cw, .int ts, .ref a1, .ref a2, .ref a3, .ref a4, .ref a5])), (a1, .inr (1, [.int (b2i n1), .int p1, .long f1])), (a2, .inr (1, [.int (b2i n2), .int p2, .long f2]))] := by exact hD.sub [0, 1, 2] (by decide) rfl
                exact W.zret (v := 1) hx hb hr (by first | exact nar_b2i _ | rfl) (fun t ht hW => ⟨⟨1, (), rfl, by rw [hE]; rfl, by rw [ht]; exact hP9, hD9⟩, hS.F ht⟩) hS.2.2 d_O_isInvalid_118
              · skip
                have c_90 : ¬ (g_R_isNothing p2 f2) = true := b2i_z c_90
                refine lv_aload_n hx hb d_O_isInvalid_93 rfl (lv_at hl 1 rfl) ?_
                refine va_get (D := (dC, dI)) (ci := 0) (v := .ref a1) (C := R_O) (T := F_O) (N := 9) hx hb htA in_O hown hK hP 0 rfl rfl 4 (by decide) (htA _ k_104) (fun _ h9 => h9) rfl d_O_isInvalid_94 ?_
                have hPc := hP.sub (ws' := [(a1, .inr (1, [.int (b2i n1), .int p1, .long f1]))]) [1] rfl
                have hDc := hD.sub (ws' := [(a1, .inr (1, [.int (b2i n1), .int p1, .long f1]))]) [1] (by decide) rfl
                have hKc := hK.sub (tys' := []) [] rfl
                have hFc := va_free (wc := [(a1, .inr (1, [.int (b2i n1), .int p1, .long f1]))]) hD hS hA [1] rfl
                refine cc_i (va_runVN (As := []) (rest := []) ⟨hx, hb, hml, hown, htA⟩ (c_R_isNothing l dC dI a1 H.size n1 p1 f1) ⟨va_cnB 0 htA (gi_code k_27) rfl rfl rfl (hnw _ n_8) (htA _ k_20) (by decide +kernel) ⟨Nat.le_of_ble_eq_true rfl, Nat.le_of_ble_eq_true rfl⟩, htA _ k_114, htA _ k_115⟩ (pre_V hnw hPc hKc hDc (ci := 1) (q0 := 0) rfl rfl) rfl rfl hl.1 rfl (lv_room (Nat.le_of_ble_eq_true rfl)) d_O_isInvalid_97 ⟨Nat.le_of_ble_eq_true rfl, Nat.le_of_ble_eq_true rfl⟩) hS hFc hP hD [1] [0, 2] (wr := [(aO, .inr (0, [.ref aT, .ref aF, .int cw, .int ts, .ref a1, .ref a2, .ref a3, .ref a4, .ref a5])), (a2, .inr (1, [.int (b2i n2), .int p2, .long f2]))]) rfl rfl (by decide) (by decide) (fun H locs hP hD hS => ?_)
                have hP : va_P (dC, dI) classes [(aO, .inr (0, [.ref aT, .ref aF, .int cw, .int ts, .ref a1, .ref a2, .ref a3, .ref a4, .ref a5])), (a2, .inr (1, [.int (b2i n2), .int p2, .long f2])), (a1, .inr (1, [.int (b2i n1), .int p1, .long f1]))] H := hP
                have hD : va_D A [(aO, .inr (0, [.ref aT, .ref aF, .int cw, .int ts, .ref a1, .ref a2, .ref a3, .ref a4, .ref a5])), (a2, .inr (1, [.int (b2i n2), .int p2, .long f2])), (a1, .inr (1, [.int (b2i n1), .int p1, .long f1]))] := hD
                refine lv_if_eq (tgt := 117) hx hb d_O_isInvalid_100 (by decide) (fun c_100 => ?_) (fun c_100 => ?_)
                · skip
                  have c_100 : ¬ (g_R_isNothing p1 f1) = true := b2i_z c_100
                  refine lv_iconst (v := 0) hx hb d_O_isInvalid_117 (by decide) ?_
                  have hE : g_O_isInvalid cw n1 p1 f1 n2 p2 f2 iop = (false) := by clear hP hD hl hS; unfold g_O_isInvalid; (try dsimp only); rw [if_neg c_3, if_pos c_18, if_pos c_28, if_neg c_41, if_pos c_70, if_pos c_80, if_neg c_90, if_neg c_100]
                  have hP9 : va_P (dC, dI) classes [(aO, .inr (0, [.ref aT, .ref aF, .int cw, .int ts, .ref a1, .ref a2, .ref a3, .ref a4, .ref a5])), (a1, .inr (1, [.int (b2i n1), .int p1, .long f1])), (a2, .inr (1, [.int (b2i n2), .int p2, .long f2]))] H := by exact hP.sub [0, 2, 1] rfl
                  have hD9 : va_D A [(aO, .inr (0, [.ref aT, .ref aF, .int cw, .int ts, .ref a1, .ref a2, .ref a3, .ref a4, .ref a5])), (a1, .inr (1, [.int (b2i n1), .int p1, .long f1])), (a2, .inr (1, [.int (b2i n2), .int p2, .long f2]))] := by exact hD.sub [0, 2, 1] (by decide) rfl
                  exact W.zret (v := 0) hx hb hr (by first | exact nar_b2i _ | rfl) (fun t ht hW => ⟨⟨0, (), rfl, by rw [hE]; rfl, by rw [ht]; exact hP9, hD9⟩, hS.F ht⟩) hS.2.2 d_O_isInvalid_118
                · skip
                  have c_100 : (g_R_isNothing p1 f1) = true := b2i_nz c_100
                  refine lv_aload_n hx hb d_O_isInvalid_103 rfl (lv_at hl 1 rfl) ?_
                  refine va_get (D := (dC, dI)) (ci := 0) (v := .ref a2) (C := R_O) (T := F_O) (N := 9) hx hb htA in_O hown hK hP 0 rfl rfl 5 (by decide) (htA _ k_105) (fun _ h9 => h9) rfl d_O_isInvalid_104 ?_
                  have hPc := hP.sub (ws' := [(a2, .inr (1, [.int (b2i n2), .int p2, .long f2]))]) [1] rfl
                  have hDc := hD.sub (ws' := [(a2, .inr (1, [.int (b2i n2), .int p2, .long f2]))]) [1] (by decide) rfl
                  have hKc := hK.sub (tys' := []) [] rfl
                  have hFc := va_free (wc := [(a2, .inr (1, [.int (b2i n2), .int p2, .long f2]))]) hD hS hA [1] rfl
                  refine cc_i (va_runVN (As := []) (rest := []) ⟨hx, hb, hml, hown, htA⟩ (c_R_isInfinite l dC dI a2 H.size n2 p2 f2) ⟨va_cnB 0 htA (gi_code k_28) rfl rfl rfl (hnw _ n_7) (htA _ k_20) (by decide +kernel) ⟨Nat.le_of_ble_eq_true rfl, Nat.le_of_ble_eq_true rfl⟩, htA _ k_109, htA _ k_110⟩ (pre_V hnw hPc hKc hDc (ci := 1) (q0 := 0) rfl rfl) rfl rfl hl.1 rfl (lv_room (Nat.le_of_ble_eq_true rfl)) d_O_isInvalid_107 ⟨Nat.le_of_ble_eq_true rfl, Nat.le_of_ble_eq_true rfl⟩) hS hFc hP hD [1] [0, 2] (wr := [(aO, .inr (0, [.ref aT, .ref aF, .int cw, .int ts, .ref a1, .ref a2, .ref a3, .ref a4, .ref a5])), (a1, .inr (1, [.int (b2i n1), .int p1, .long f1]))]) rfl rfl (by decide) (by decide) (fun H locs hP hD hS => ?_)
                  have hP : va_P (dC, dI) classes [(aO, .inr (0, [.ref aT, .ref aF, .int cw, .int ts, .ref a1, .ref a2, .ref a3, .ref a4, .ref a5])), (a1, .inr (1, [.int (b2i n1), .int p1, .long f1])), (a2, .inr (1, [.int (b2i n2), .int p2, .long f2]))] H := hP
                  have hD : va_D A [(aO, .inr (0, [.ref aT, .ref aF, .int cw, .int ts, .ref a1, .ref a2, .ref a3, .ref a4, .ref a5])), (a1, .inr (1, [.int (b2i n1), .int p1, .long f1])), (a2, .inr (1, [.int (b2i n2), .int p2, .long f2]))] := hD
                  refine lv_if_eq (tgt := 117) hx hb d_O_isInvalid_110 (by decide) (fun c_110 => ?_) (fun c_110 => ?_)
                  · skip
                    have c_110 : ¬ (g_R_isInfinite p2 f2) = true := b2i_z c_110
                    refine lv_iconst (v := 0) hx hb d_O_isInvalid_117 (by decide) ?_
                    have hE : g_O_isInvalid cw n1 p1 f1 n2 p2 f2 iop = (false) := by clear hP hD hl hS; unfold g_O_isInvalid; (try dsimp only); rw [if_neg c_3, if_pos c_18, if_pos c_28, if_neg c_41, if_pos c_70, if_pos c_80, if_neg c_90, if_pos c_100, if_neg c_110]
                    have hP9 : va_P (dC, dI) classes [(aO, .inr (0, [.ref aT, .ref aF, .int cw, .int ts, .ref a1, .ref a2, .ref a3, .ref a4, .ref a5])), (a1, .inr (1, [.int (b2i n1), .int p1, .long f1])), (a2, .inr (1, [.int (b2i n2), .int p2, .long f2]))] H := by exact hP.sub [0, 1, 2] rfl
                    have hD9 : va_D A [(aO, .inr (0, [.ref aT, .ref aF, .int cw, .int ts, .ref a1, .ref a2, .ref a3, .ref a4, .ref a5])), (a1, .inr (1, [.int (b2i n1), .int p1, .long f1])), (a2, .inr (1, [.int (b2i n2), .int p2, .long f2]))] := by exact hD.sub [0, 1, 2] (by decide) rfl
                    exact W.zret (v := 0) hx hb hr (by first | exact nar_b2i _ | rfl) (fun t ht hW => ⟨⟨0, (), rfl, by rw [hE]; rfl, by rw [ht]; exact hP9, hD9⟩, hS.F ht⟩) hS.2.2 d_O_isInvalid_118
                  · skip
                    have c_110 : (g_R_isInfinite p2 f2) = true := b2i_nz c_110
                    refine lv_iconst (v := 1) hx hb d_O_isInvalid_113 (by decide) ?_
                    refine lv_goto (tgt := 118) hx hb d_O_isInvalid_114 (by decide) ?_
                    have hE : g_O_isInvalid cw n1 p1 f1 n2 p2 f2 iop = (true) := by clear hP hD hl hS; unfold g_O_isInvalid; (try dsimp only); rw [if_neg c_3, if_pos c_18, if_pos c_28, if_neg c_41, if_pos c_70, if_pos c_80, if_neg c_90, if_pos c_100, if_pos c_110]
                    have hP9 : va_P (dC, dI) classes [(aO, .inr (0, [.ref aT, .ref aF, .int cw, .int ts, .ref a1, .ref a2, .ref a3, .ref a4, .ref a5])), (a1, .inr (1, [.int (b2i n1), .int p1, .long f1])), (a2, .inr (1, [.int (b2i n2), .int p2, .long f2]))] H := by exact hP.sub [0, 1, 2] rfl
                    have hD9 : va_D A [(aO, .inr (0, [.ref aT, .ref aF, .int cw, .int ts, .ref a1, .ref a2, .ref a3, .ref a4, .ref a5])), (a1, .inr (1, [.int (b2i n1), .int p1, .long f1])), (a2, .inr (1, [.int (b2i n2), .int p2, .long f2]))] := by exact hD.sub [0, 1, 2] (by decide) rfl
                    exact W.zret (v := 1) hx hb hr (by first | exact nar_b2i _ | rfl) (fun t ht hW => ⟨⟨1, (), rfl, by rw [hE]; rfl, by rw [ht]; exact hP9, hD9⟩, hS.F ht⟩) hS.2.2 d_O_isInvalid_118
        · skip
          have c_41 : (g_O_isSum iop) = true := b2i_nz c_41
          refine lv_iload_n hx hb d_O_isInvalid_44 rfl (lv_at hl 0 rfl) ?_
          refine lv_if_eq (tgt := 66) hx hb d_O_isInvalid_45 (by decide) (fun c_45 => absurd c_45 (by decide)) (fun _ => ?_)
          refine lv_aload_n hx hb d_O_isInvalid_48 rfl (lv_at hl 1 rfl) ?_
          have hPc := hP.sub (ws' := [(aO, .inr (0, [.ref aT, .ref aF, .int cw, .int ts, .ref a1, .ref a2, .ref a3, .ref a4, .ref a5]))]) [0] rfl
          have hDc := hD.sub (ws' := [(aO, .inr (0, [.ref aT, .ref aF, .int cw, .int ts, .ref a1, .ref a2, .ref a3, .ref a4, .ref a5]))]) [0] (by decide) rfl
          have hKc := hK.sub (tys' := []) [] rfl
          have hFc := va_free (wc := [(aO, .inr (0, [.ref aT, .ref aF, .int cw, .int ts, .ref a1, .ref a2, .ref a3, .ref a4, .ref a5]))]) hD hS hA [0] rfl
          refine cc_i (va_runV (As := []) (rest := []) ⟨hx, hb, hml, hown, htA⟩ (c_O_hasTwoInfinites l dC dI aO aT aF a1 a2 a3 a4 a5 H.size cw ts) (cwV 0 htA (gi_V k_111 k_112 k_113 k_90 (gi_code k_100)) rfl rfl rfl (by decide +kernel) ⟨Nat.le_of_ble_eq_true rfl, Nat.le_of_ble_eq_true rfl⟩) (pre_V hnw hPc hKc hDc (ci := 0) (q0 := 0) rfl rfl) rfl rfl hl.1 rfl (lv_room (Nat.le_of_ble_eq_true rfl)) d_O_isInvalid_49 ⟨Nat.le_of_ble_eq_true rfl, Nat.le_of_ble_eq_true rfl⟩) hS hFc hP hD [0] [1, 2] (wr := [(a1, .inr (1, [.int (b2i n1), .int p1, .long f1])), (a2, .inr (1, [.int (b2i n2), .int p2, .long f2]))]) rfl rfl (by decide) (by decide) (fun H locs hP hD hS => ?_)
          have hP : va_P (dC, dI) classes [(a1, .inr (1, [.int (b2i n1), .int p1, .long f1])), (a2, .inr (1, [.int (b2i n2), .int p2, .long f2])), (aO, .inr (0, [.ref aT, .ref aF, .int cw, .int ts, .ref a1, .ref a2, .ref a3, .ref a4, .ref a5]))] H := hP
          have hD : va_D A [(a1, .inr (1, [.int (b2i n1), .int p1, .long f1])), (a2, .inr (1, [.int (b2i n2), .int p2, .long f2])), (aO, .inr (0, [.ref aT, .ref aF, .int cw, .int ts, .ref a1, .ref a2, .ref a3, .ref a4, .ref a5]))] := hD
          refine lv_if_eq (tgt := 62) hx hb d_O_isInvalid_52 (by decide) (fun c_52 => ?_) (fun c_52 => ?_)
          · skip
            have c_52 : ¬ (g_O_hasTwoInfinites cw) = true := b2i_z c_52
            refine lv_iconst (v := 1) hx hb d_O_isInvalid_62 (by decide) ?_
            refine lv_goto (tgt := 67) hx hb d_O_isInvalid_63 (by decide) ?_
            have hE : g_O_isInvalid cw n1 p1 f1 n2 p2 f2 iop = (true) := by clear hP hD hl hS; unfold g_O_isInvalid; (try dsimp only); rw [if_neg c_3, if_pos c_18, if_pos c_28, if_pos c_41, if_neg c_52]
            have hP9 : va_P (dC, dI) classes [(aO, .inr (0, [.ref aT, .ref aF, .int cw, .int ts, .ref a1, .ref a2, .ref a3, .ref a4, .ref a5])), (a1, .inr (1, [.int (b2i n1), .int p1, .long f1])), (a2, .inr (1, [.int (b2i n2), .int p2, .long f2]))] H := by exact hP.sub [2, 0, 1] rfl
            have hD9 : va_D A [(aO, .inr (0, [.ref aT, .ref aF, .int cw, .int ts, .ref a1, .ref a2, .ref a3, .ref a4, .ref a5])), (a1, .inr (1, [.int (b2i n1), .int p1, .long f1])), (a2, .inr (1, [.int (b2i n2), .int p2, .long f2]))] := by exact hD.sub [2, 0, 1] (by decide) rfl
            exact W.zret (v := 1) hx hb hr (by first | exact nar_b2i _ | rfl) (fun t ht hW => ⟨⟨1, (), rfl, by rw [hE]; rfl, by rw [ht]; exact hP9, hD9⟩, hS.F ht⟩) hS.2.2 d_O_isInvalid_67
          · skip
            have c_52 : (g_O_hasTwoInfinites cw) = true := b2i_nz c_52
            refine lv_aload_n hx hb d_O_isInvalid_55 rfl (lv_at hl 1 rfl) ?_
            have hPc := hP.sub (ws' := [(aO, .inr (0, [.ref aT, .ref aF, .int cw, .int ts, .ref a1, .ref a2, .ref a3, .ref a4, .ref a5])), (a1, .inr (1, [.int (b2i n1), .int p1, .long f1])), (a2, .inr (1, [.int (b2i n2), .int p2, .long f2]))]) [2, 0, 1] rfl
            have hDc := hD.sub (ws' := [(aO, .inr (0, [.ref aT, .ref aF, .int cw, .int ts, .ref a1, .ref a2, .ref a3, .ref a4, .ref a5])), (a1, .inr (1, [.int (b2i n1), .int p1, .long f1])), (a2, .inr (1, [.int (b2i n2), .int p2, .long f2]))]) [2, 0, 1] (by decide) rfl
            have hKc := hK.sub (tys' := []) [] rfl
            have hFc := va_free (wc := [(aO, .inr (0, [.ref aT, .ref aF, .int cw, .int ts, .ref a1, .ref a2, .ref a3, .ref a4, .ref a5])), (a1, .inr (1, [.int (b2i n1), .int p1, .long f1])), (a2, .inr (1, [.int (b2i n2), .int p2, .long f2]))]) hD hS hA [2, 0, 1] rfl
            refine cc_i (va_runV (As := []) (rest := []) ⟨hx, hb, hml, hown, htA⟩ (c_O_hasOppositeSigns l dC dI aO a1 a2 aT aF a3 a4 a5 H.size cw ts n1 p1 f1 n2 p2 f2) (cwV 0 htA (gi_V k_119 k_120 k_121 k_90 (gi_code k_106)) rfl rfl rfl (by decide +kernel) ⟨Nat.le_of_ble_eq_true rfl, Nat.le_of_ble_eq_true rfl⟩) (pre_V hnw hPc hKc hDc (ci := 0) (q0 := 0) rfl rfl) rfl rfl hl.1 rfl (lv_room (Nat.le_of_ble_eq_true rfl)) d_O_isInvalid_56 ⟨Nat.le_of_ble_eq_true rfl, Nat.le_of_ble_eq_true rfl⟩) hS hFc hP hD [2, 0, 1] [] (wr := []) rfl rfl (by decide) (by decide) (fun H locs hP hD hS => ?_)
            have hP : va_P (dC, dI) classes [(aO, .inr (0, [.ref aT, .ref aF, .int cw, .int ts, .ref a1, .ref a2, .ref a3, .ref a4, .ref a5])), (a1, .inr (1, [.int (b2i n1), .int p1, .long f1])), (a2, .inr (1, [.int (b2i n2), .int p2, .long f2]))] H := hP
            have hD : va_D A [(aO, .inr (0, [.ref aT, .ref aF, .int cw, .int ts, .ref a1, .ref a2, .ref a3, .ref a4, .ref a5])), (a1, .inr (1, [.int (b2i n1), .int p1, .long f1])), (a2, .inr (1, [.int (b2i n2), .int p2, .long f2]))] := hD
            refine lv_if_eq (tgt := 66) hx hb d_O_isInvalid_59 (by decide) (fun c_59 => ?_) (fun c_59 => ?_)
            · skip
              have c_59 : ¬ (g_O_hasOppositeSigns n1 n2) = true := b2i_z c_59
              refine lv_iconst (v := 0) hx hb d_O_isInvalid_66 (by decide) ?_
              have hE : g_O_isInvalid cw n1 p1 f1 n2 p2 f2 iop = (false) := by clear hP hD hl hS; unfold g_O_isInvalid; (try dsimp only); rw [if_neg c_3, if_pos c_18, if_pos c_28, if_pos c_41, if_pos c_52, if_neg c_59]
              have hP9 : va_P (dC, dI) classes [(aO, .inr (0, [.ref aT, .ref aF, .int cw, .int ts, .ref a1, .ref a2, .ref a3, .ref a4, .ref a5])), (a1, .inr (1, [.int (b2i n1), .int p1, .long f1])), (a2, .inr (1, [.int (b2i n2), .int p2, .long f2]))] H := by exact hP.sub [0, 1, 2] rfl
              have hD9 : va_D A [(aO, .inr (0, [.ref aT, .ref aF, .int cw, .int ts, .ref a1, .ref a2, .ref a3, .ref a4, .ref a5])), (a1, .inr (1, [.int (b2i n1), .int p1, .long f1])), (a2, .inr (1, [.int (b2i n2), .int p2, .long f2]))] := by exact hD.sub [0, 1, 2] (by decide) rfl
              exact W.zret (v := 0) hx hb hr (by first | exact nar_b2i _ | rfl) (fun t ht hW => ⟨⟨0, (), rfl, by rw [hE]; rfl, by rw [ht]; exact hP9, hD9⟩, hS.F ht⟩) hS.2.2 d_O_isInvalid_67
            · skip
              have c_59 : (g_O_hasOppositeSigns n1 n2) = true := b2i_nz c_59
              refine lv_iconst (v := 1) hx hb d_O_isInvalid_62 (by decide) ?_
              refine lv_goto (tgt := 67) hx hb d_O_isInvalid_63 (by decide) ?_
              have hE : g_O_isInvalid cw n1 p1 f1 n2 p2 f2 iop = (true) := by clear hP hD hl hS; unfold g_O_isInvalid; (try dsimp only); rw [if_neg c_3, if_pos c_18, if_pos c_28, if_pos c_41, if_pos c_52, if_pos c_59]
              have hP9 : va_P (dC, dI) classes [(aO, .inr (0, [.ref aT, .ref aF, .int cw, .int ts, .ref a1, .ref a2, .ref a3, .ref a4, .ref a5])), (a1, .inr (1, [.int (b2i n1), .int p1, .long f1])), (a2, .inr (1, [.int (b2i n2), .int p2, .long f2]))] H := by exact hP.sub [0, 1, 2] rfl
              have hD9 : va_D A [(aO, .inr (0, [.ref aT, .ref aF, .int cw, .int ts, .ref a1, .ref a2, .ref a3, .ref a4, .ref a5])), (a1, .inr (1, [.int (b2i n1), .int p1, .long f1])), (a2, .inr (1, [.int (b2i n2), .int p2, .long f2]))] := by exact hD.sub [0, 1, 2] (by decide) rfl
              exact W.zret (v := 1) hx hb hr (by first | exact nar_b2i _ | rfl) (fun t ht hW => ⟨⟨1, (), rfl, by rw [hE]; rfl, by rw [ht]; exact hP9, hD9⟩, hS.F ht⟩) hS.2.2 d_O_isInvalid_67
  · skip
    refine lv_aload_n hx hb d_O_isInvalid_6 rfl (lv_at hl 0 rfl) ?_
    have hPc := hP.sub (ws' := [(aO, .inr (0, [.ref aT, .ref aF, .int cw, .int ts, .ref a1, .ref a2, .ref a3, .ref a4, .ref a5])), (a1, .inr (1, [.int (b2i n1), .int p1, .long f1]))]) [0, 1] rfl
    have hDc := hD.sub (ws' := [(aO, .inr (0, [.ref aT, .ref aF, .int cw, .int ts, .ref a1, .ref a2, .ref a3, .ref a4, .ref a5])), (a1, .inr (1, [.int (b2i n1), .int p1, .long f1]))]) [0, 1] (by decide) rfl
    have hKc := hK.sub (tys' := []) [] rfl
    have hFc := va_free (wc := [(aO, .inr (0, [.ref aT, .ref aF, .int cw, .int ts, .ref a1, .ref a2, .ref a3, .ref a4, .ref a5])), (a1, .inr (1, [.int (b2i n1), .int p1, .long f1]))]) hD hS hA [0, 1] rfl
    refine cc_i (va_runV (As := []) (rest := []) ⟨hx, hb, hml, hown, htA⟩ (c_O_isInvalidRoot l dC dI aO a1 aT aF a2 a3 a4 a5 H.size cw ts n1 p1 f1) (cwV 0 htA (gi_V k_122 k_123 k_124 k_90 (gi_code k_116)) rfl rfl rfl (by decide +kernel) ⟨Nat.le_of_ble_eq_true rfl, Nat.le_of_ble_eq_true rfl⟩) (pre_V hnw hPc hKc hDc (ci := 0) (q0 := 0) rfl rfl) rfl rfl hl.1 rfl (lv_room (Nat.le_of_ble_eq_true rfl)) d_O_isInvalid_7 ⟨Nat.le_of_ble_eq_true rfl, Nat.le_of_ble_eq_true rfl⟩) hS hFc hP hD [0, 1] [2] (wr := [(a2, .inr (1, [.int (b2i n2), .int p2, .long f2]))]) rfl rfl (by decide) (by decide) (fun H locs hP hD hS => ?_)
    have hP : va_P (dC, dI) classes [(a2, .inr (1, [.int (b2i n2), .int p2, .long f2])), (aO, .inr (0, [.ref aT, .ref aF, .int cw, .int ts, .ref a1, .ref a2, .ref a3, .ref a4, .ref a5])), (a1, .inr (1, [.int (b2i n1), .int p1, .long f1]))] H := hP
    have hD : va_D A [(a2, .inr (1, [.int (b2i n2), .int p2, .long f2])), (aO, .inr (0, [.ref aT, .ref aF, .int cw, .int ts, .ref a1, .ref a2, .ref a3, .ref a4, .ref a5])), (a1, .inr (1, [.int (b2i n1), .int p1, .long f1]))] := hD
    have hE : g_O_isInvalid cw n1 p1 f1 n2 p2 f2 iop = ((g_O_isInvalidRoot cw n1 p1 f1)) := by clear hP hD hl hS; unfold g_O_isInvalid; (try dsimp only); rw [if_pos c_3]
    have hP9 : va_P (dC, dI) classes [(aO, .inr (0, [.ref aT, .ref aF, .int cw, .int ts, .ref a1, .ref a2, .ref a3, .ref a4, .ref a5])), (a1, .inr (1, [.int (b2i n1), .int p1, .long f1])), (a2, .inr (1, [.int (b2i n2), .int p2, .long f2]))] H := by exact hP.sub [1, 2, 0] rfl
    have hD9 : va_D A [(aO, .inr (0, [.ref aT, .ref aF, .int cw, .int ts, .ref a1, .ref a2, .ref a3, .ref a4, .ref a5])), (a1, .inr (1, [.int (b2i n1), .int p1, .long f1])), (a2, .inr (1, [.int (b2i n2), .int p2, .long f2]))] := by exact hD.sub [1, 2, 0] (by decide) rfl
    exact W.zret (v := (b2i (g_O_isInvalidRoot cw n1 p1 f1))) hx hb hr (by first | exact nar_b2i _ | rfl) (fun t ht hW => ⟨⟨(b2i (g_O_isInvalidRoot cw n1 p1 f1)), (), rfl, by rw [hE], by rw [ht]; exact hP9, hD9⟩, hS.F ht⟩) hS.2.2 d_O_isInvalid_10
