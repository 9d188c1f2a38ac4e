theorem d_M_none_0 : decode b_M_none 0 = .ok (.iload_n 0, 1) := by decide +kernel
theorem d_M_none_1 : decode b_M_none 1 = .ok (.ifCond .lt 9, 3) := by decide +kernel
theorem d_M_none_10 : decode b_M_none 10 = .ok (.iconst 1, 1) := by decide +kernel
theorem d_M_none_11 : decode b_M_none 11 = .ok (.goto 4, 3) := by decide +kernel
theorem d_M_none_15 : decode b_M_none 15 = .ok (.ireturn, 1) := by decide +kernel
theorem d_M_none_4 : decode b_M_none 4 = .ok (.iload_n 0, 1) := by decide +kernel
theorem d_M_none_5 : decode b_M_none 5 = .ok (.bipush 7, 2) := by decide +kernel
theorem d_M_none_7 : decode b_M_none 7 = .ok (.if_icmp .le 7, 3) := by decide +kernel
theorem d_M_none_14 : decode b_M_none 14 = .ok (.iconst 0, 1) := by decide +kernel
set_option maxHeartbeats 4000000 in
set_option maxRecDepth 100000 in
theorem c_M_none (l : Launch) (dC : Nat → ClassId) (dI : Nat → Nat → Nat) (sz : Nat) (ii : Int32) : Met l y_M_none w_M_none ({ frames := 0, cells := 0, slots := 0, locals := 0 }) (cPc (dC, dI) [] [.int ii] [] sz) (va_Qi (fun (r : Int32) (_ : Unit) => r = b2i ((g_M_none ii))) (fun _ t => va_P (dC, dI) classes [] t.heap ∧ va_D (va_A [] sz) []) (va_A [] sz)) 0 0 (va_A [] sz) := by
  refine Met.ofW (cc := b_M_none) (maxL := 1) (ret := (some .boolean)) (by decide) rfl ?_
  intro p e s m args below meth c s₁ B hml hv
  obtain ⟨rfl, hsz, hP, hK, hD0, hnw⟩ := hv
  have hx := B.exec
  have hb := B.bytes
  have hr := B.returns
  have hts := atoms_spec (ws := w_M_none) B.pre
  have htA : ∀ w ∈ wAll, w.before _ s = true := fun w h => hts w (List.mem_cons_of_mem _ h)
  have hown : s.vm.findClass R_M = some m.cls := findClass_of_methodNamed B.named
  have hlocks := B.notSynchronized
  subst hsz
  have hD := hD0.self (sz := s.heap.size)
  generalize hAe : va_A [] s.heap.size = A at hD ⊢
  have hA : ∀ q : Nat, s.heap.size ≤ q → A q := fun q h => by rw [← hAe]; exact Or.inr h
  have hS : va_S A s.heap s.heap [] := va_S.rf
  have hP : va_P (dC, dI) classes [] s.heap := hP
  obtain ⟨H, eH⟩ : ∃ z, z = s.heap := ⟨_, rfl⟩
  rw [← eH] at hP
  have hS : va_S A s.heap H [] := by rw [eH]; exact hS
  rw [← eH]
  generalize ([] : List Loc) = locs at hS ⊢
  have hl := lv_entry ([.int ii]) (n := 1) (Nat.le_of_ble_eq_true rfl)
  rw [lg_entry_eq]
  generalize (lg_sl ([.int ii]) ++ List.replicate (1 - (lg_sl ([.int ii])).length) Slot.unset).toArray = ls at hl ⊢
  have hl : lv_has ls 1 [(0, .int ii)] := hl
  refine lv_iload_n hx hb d_M_none_0 rfl (lv_at hl 0 rfl) ?_
  refine lv_if_lt (tgt := 10) hx hb d_M_none_1 (by decide) (fun c_1 => ?_) (fun c_1 => ?_)
  · skip
    refine lv_iconst (v := 1) hx hb d_M_none_10 (by decide) ?_
    refine lv_goto (tgt := 15) hx hb d_M_none_11 (by decide) ?_
    have hE : g_M_none ii = (true) := by clear hP hD hl hS; unfold g_M_none; (try dsimp only); rw [if_pos c_1]
    have hP9 : va_P (dC, dI) classes [] H := by exact hP.sub [] rfl
    have hD9 : va_D A [] := by exact hD.sub [] (by decide) rfl
    exact W.zret (v := 1) hx hb hr (by first | exact nar_b2i _ | rfl) (fun t ht hW => ⟨⟨1, (), rfl, by rw [hE]; rfl, by rw [ht]; exact hP9, hD9⟩, hS.F ht⟩) hS.2.2 d_M_none_15
  · skip
    refine lv_iload_n hx hb d_M_none_4 rfl (lv_at hl 0 rfl) ?_
    refine lv_bipush (v := 7) hx hb d_M_none_5 (by decide) ?_
    refine lv_icmp_le (tgt := 14) hx hb d_M_none_7 (by decide) (fun c_7 => ?_) (fun c_7 => ?_)
    · skip
      refine lv_iconst (v := 0) hx hb d_M_none_14 (by decide) ?_
      have hE : g_M_none ii = (false) := by clear hP hD hl hS; unfold g_M_none; (try dsimp only); rw [if_neg c_1, if_pos c_7]
      have hP9 : va_P (dC, dI) classes [] H := by exact hP.sub [] rfl
      have hD9 : va_D A [] := by exact hD.sub [] (by decide) rfl
      exact W.zret (v := 0) hx hb hr (by first | exact nar_b2i _ | rfl) (fun t ht hW => ⟨⟨0, (), rfl, by rw [hE]; rfl, by rw [ht]; exact hP9, hD9⟩, hS.F ht⟩) hS.2.2 d_M_none_15
    · skip
      refine lv_iconst (v := 1) hx hb d_M_none_10 (by decide) ?_
      refine lv_goto (tgt := 15) hx hb d_M_none_11 (by decide) ?_
      have hE : g_M_none ii = (true) := by clear hP hD hl hS; unfold g_M_none; (try dsimp only); rw [if_neg c_1, if_neg c_7]
      have hP9 : va_P (dC, dI) classes [] H := by exact hP.sub [] rfl
      have hD9 : va_D A [] := by exact hD.sub [] (by decide) rfl
      exact W.zret (v := 1) hx hb hr (by first | exact nar_b2i _ | rfl) (fun t ht hW => ⟨⟨1, (), rfl, by rw [hE]; rfl, by rw [ht]; exact hP9, hD9⟩, hS.F ht⟩) hS.2.2 d_M_none_15
theorem d_M_below_0 : decode b_M_below 0 = .ok (.lload_n 0, 1) := by decide +kernel
theorem d_M_below_1 : decode b_M_below 1 = .ok (.lconst 0, 1) := by decide +kernel
theorem d_M_below_2 : decode b_M_below 2 = .ok (.lcmp, 1) := by decide +kernel
theorem d_M_below_3 : decode b_M_below 3 = .ok (.ifCond .lt 7, 3) := by decide +kernel
theorem d_M_below_10 : decode b_M_below 10 = .ok (.iconst 0, 1) := by decide +kernel
theorem d_M_below_6 : decode b_M_below 6 = .ok (.iconst 1, 1) := by decide +kernel
theorem d_M_below_7 : decode b_M_below 7 = .ok (.goto 4, 3) := by decide +kernel
theorem d_M_below_11 : decode b_M_below 11 = .ok (.lload_n 2, 1) := by decide +kernel
theorem d_M_below_12 : decode b_M_below 12 = .ok (.lconst 0, 1) := by decide +kernel
theorem d_M_below_13 : decode b_M_below 13 = .ok (.lcmp, 1) := by decide +kernel
theorem d_M_below_14 : decode b_M_below 14 = .ok (.ifCond .lt 7, 3) := by decide +kernel
theorem d_M_below_21 : decode b_M_below 21 = .ok (.iconst 0, 1) := by decide +kernel
theorem d_M_below_17 : decode b_M_below 17 = .ok (.iconst 1, 1) := by decide +kernel
theorem d_M_below_18 : decode b_M_below 18 = .ok (.goto 4, 3) := by decide +kernel
theorem d_M_below_22 : decode b_M_below 22 = .ok (.if_icmp .ne 17, 3) := by decide +kernel
theorem d_M_below_39 : decode b_M_below 39 = .ok (.lload_n 0, 1) := by decide +kernel
theorem d_M_below_40 : decode b_M_below 40 = .ok (.lconst 0, 1) := by decide +kernel
theorem d_M_below_41 : decode b_M_below 41 = .ok (.lcmp, 1) := by decide +kernel
theorem d_M_below_42 : decode b_M_below 42 = .ok (.ifCond .lt 7, 3) := by decide +kernel
theorem d_M_below_49 : decode b_M_below 49 = .ok (.iconst 0, 1) := by decide +kernel
theorem d_M_below_50 : decode b_M_below 50 = .ok (.ireturn, 1) := by decide +kernel
theorem d_M_below_45 : decode b_M_below 45 = .ok (.iconst 1, 1) := by decide +kernel
theorem d_M_below_46 : decode b_M_below 46 = .ok (.goto 4, 3) := by decide +kernel
theorem d_M_below_25 : decode b_M_below 25 = .ok (.lload_n 0, 1) := by decide +kernel
theorem d_M_below_26 : decode b_M_below 26 = .ok (.lload_n 2, 1) := by decide +kernel
theorem d_M_below_27 : decode b_M_below 27 = .ok (.lcmp, 1) := by decide +kernel
theorem d_M_below_28 : decode b_M_below 28 = .ok (.ifCond .ge 7, 3) := by decide +kernel
theorem d_M_below_35 : decode b_M_below 35 = .ok (.iconst 0, 1) := by decide +kernel
theorem d_M_below_36 : decode b_M_below 36 = .ok (.goto 14, 3) := by decide +kernel
theorem d_M_below_31 : decode b_M_below 31 = .ok (.iconst 1, 1) := by decide +kernel
theorem d_M_below_32 : decode b_M_below 32 = .ok (.goto 18, 3) := by decide +kernel
set_option maxHeartbeats 4000000 in
set_option maxRecDepth 100000 in
theorem c_M_below (l : Launch) (dC : Nat → ClassId) (dI : Nat → Nat → Nat) (sz : Nat) (xa : Int64) (xb : Int64) : Met l y_M_below w_M_below ({ frames := 0, cells := 0, slots := 0, locals := 0 }) (cPc (dC, dI) [] [.long xa, .long xb] [] sz) (va_Qi (fun (r : Int32) (_ : Unit) => r = b2i ((g_M_below xa xb))) (fun _ t => va_P (dC, dI) classes [] t.heap ∧ va_D (va_A [] sz) []) (va_A [] sz)) 0 0 (va_A [] sz) := by
  refine Met.ofW (cc := b_M_below) (maxL := 4) (ret := (some .boolean)) (by decide) rfl ?_
  intro p e s m args below meth c s₁ B hml hv
  obtain ⟨rfl, hsz, hP, hK, hD0, hnw⟩ := hv
  have hx := B.exec
  have hb := B.bytes
  have hr := B.returns
  have hts := atoms_spec (ws := w_M_below) B.pre
  have htA : ∀ w ∈ wAll, w.before _ s = true := fun w h => hts w (List.mem_cons_of_mem _ h)
  have hown : s.vm.findClass R_M = some m.cls := findClass_of_methodNamed B.named
  have hlocks := B.notSynchronized
  subst hsz
  have hD := hD0.self (sz := s.heap.size)
  generalize hAe : va_A [] s.heap.size = A at hD ⊢
  have hA : ∀ q : Nat, s.heap.size ≤ q → A q := fun q h => by rw [← hAe]; exact Or.inr h
  have hS : va_S A s.heap s.heap [] := va_S.rf
  have hP : va_P (dC, dI) classes [] s.heap := hP
  obtain ⟨H, eH⟩ : ∃ z, z = s.heap := ⟨_, rfl⟩
  rw [← eH] at hP
  have hS : va_S A s.heap H [] := by rw [eH]; exact hS
  rw [← eH]
  generalize ([] : List Loc) = locs at hS ⊢
  have hl := lv_entry ([.long xa, .long xb]) (n := 4) (Nat.le_of_ble_eq_true rfl)
  rw [lg_entry_eq]
  generalize (lg_sl ([.long xa, .long xb]) ++ List.replicate (4 - (lg_sl ([.long xa, .long xb])).length) Slot.unset).toArray = ls at hl ⊢
  have hl : lv_has ls 4 [(0, .long xa), (2, .long xb)] := hl
  refine lv_lload_n hx hb d_M_below_0 rfl (lv_at hl 0 rfl) ?_
  refine lv_lconst (v := 0) hx hb d_M_below_1 (by decide) ?_
  refine W.lcmp hx hb d_M_below_2 ?_
  refine cut_join (X := Bool) 0 0 (fun (x : Bool) (H : Heap) (locs : List Loc) (ls : Array Slot) => (if xa < 0 then false else true) = x ∧ va_P (dC, dI) classes [] H ∧ va_D A [] ∧ va_S A s.heap H locs ∧ lv_has ls 4 [(0, .long xa), (2, .long xb)]) (fun x ls => F0 m 11 ls [.int (b2i x)]) ?_ (fun J11 => ?_)
  · skip
    rintro j11_0 H locs ls ⟨ej11_0, hP, hD, hS, hl⟩
    have ej11_0 : (if xa < 0 then false else true) = j11_0 := ej11_0
    have hP : va_P (dC, dI) classes [] H := hP
    have hD : va_D A [] := hD
    have hl : lv_has ls 4 [(0, .long xa), (2, .long xb)] := hl
    refine lv_lload_n hx hb d_M_below_11 rfl (lv_at hl 1 rfl) ?_
    refine lv_lconst (v := 0) hx hb d_M_below_12 (by decide) ?_
    refine W.lcmp hx hb d_M_below_13 ?_
    refine cut_join (X := Bool) 0 0 (fun (x : Bool) (H : Heap) (locs : List Loc) (ls : Array Slot) => (if xb < 0 then false else true) = x ∧ va_P (dC, dI) classes [] H ∧ va_D A [] ∧ va_S A s.heap H locs ∧ lv_has ls 4 [(0, .long xa), (2, .long xb)]) (fun x ls => F0 m 22 ls [.int (b2i x), .int (b2i j11_0)]) ?_ (fun J22 => ?_)
    · skip
      rintro j22_0 H locs ls ⟨ej22_0, hP, hD, hS, hl⟩
      have ej22_0 : (if xb < 0 then false else true) = j22_0 := ej22_0
      have hP : va_P (dC, dI) classes [] H := hP
      have hD : va_D A [] := hD
      have hl : lv_has ls 4 [(0, .long xa), (2, .long xb)] := hl
      refine lv_icmp_ne (tgt := 39) hx hb d_M_below_22 (by decide) (fun c_22 => ?_) (fun c_22 => ?_)
      · skip
        have c_22 : ¬ j11_0 = j22_0 := fun h9 => c_22 (by rw [h9])
        refine lv_lload_n hx hb d_M_below_39 rfl (lv_at hl 0 rfl) ?_
        refine lv_lconst (v := 0) hx hb d_M_below_40 (by decide) ?_
        refine W.lcmp hx hb d_M_below_41 ?_
        refine lv_if_lt (tgt := 49) hx hb d_M_below_42 (by decide) (fun c_42 => ?_) (fun c_42 => ?_)
        · skip
          have c_42 : xa < 0 := (lg_cmp_lt _ _).mp c_42
          refine lv_iconst (v := 0) hx hb d_M_below_49 (by decide) ?_
          have hE : g_M_below xa xb = (false) := by clear hP hD hl hS; subst ej22_0; subst ej11_0; unfold g_M_below; (try dsimp only); rw [if_neg c_22, if_pos c_42]
          have hP9 : va_P (dC, dI) classes [] H := by exact hP.sub [] rfl
          have hD9 : va_D A [] := by exact hD.sub [] (by decide) rfl
          exact W.zret (v := 0) hx hb hr (by first | exact nar_b2i _ | rfl) (fun t ht hW => ⟨⟨0, (), rfl, by rw [hE]; rfl, by rw [ht]; exact hP9, hD9⟩, hS.F ht⟩) hS.2.2 d_M_below_50
        · skip
          have c_42 : ¬ xa < 0 := fun h9 => c_42 ((lg_cmp_lt _ _).mpr h9)
          refine lv_iconst (v := 1) hx hb d_M_below_45 (by decide) ?_
          refine lv_goto (tgt := 50) hx hb d_M_below_46 (by decide) ?_
          have hE : g_M_below xa xb = (true) := by clear hP hD hl hS; subst ej22_0; subst ej11_0; unfold g_M_below; (try dsimp only); rw [if_neg c_22, if_neg c_42]
          have hP9 : va_P (dC, dI) classes [] H := by exact hP.sub [] rfl
          have hD9 : va_D A [] := by exact hD.sub [] (by decide) rfl
          exact W.zret (v := 1) hx hb hr (by first | exact nar_b2i _ | rfl) (fun t ht hW => ⟨⟨1, (), rfl, by rw [hE]; rfl, by rw [ht]; exact hP9, hD9⟩, hS.F ht⟩) hS.2.2 d_M_below_50
      · skip
        have c_22 : j11_0 = j22_0 := b2i_inj c_22
        refine lv_lload_n hx hb d_M_below_25 rfl (lv_at hl 0 rfl) ?_
        refine lv_lload_n hx hb d_M_below_26 rfl (lv_at hl 1 rfl) ?_
        refine W.lcmp hx hb d_M_below_27 ?_
        refine lv_if_ge (tgt := 35) hx hb d_M_below_28 (by decide) (fun c_28 => ?_) (fun c_28 => ?_)
        · skip
          have c_28 : xb ≤ xa := (lg_cmp_ge _ _).mp c_28
          refine lv_iconst (v := 0) hx hb d_M_below_35 (by decide) ?_
          refine lv_goto (tgt := 50) hx hb d_M_below_36 (by decide) ?_
          have hE : g_M_below xa xb = (false) := by clear hP hD hl hS; subst ej22_0; subst ej11_0; unfold g_M_below; (try dsimp only); rw [if_pos c_22, if_pos c_28]
          have hP9 : va_P (dC, dI) classes [] H := by exact hP.sub [] rfl
          have hD9 : va_D A [] := by exact hD.sub [] (by decide) rfl
          exact W.zret (v := 0) hx hb hr (by first | exact nar_b2i _ | rfl) (fun t ht hW => ⟨⟨0, (), rfl, by rw [hE]; rfl, by rw [ht]; exact hP9, hD9⟩, hS.F ht⟩) hS.2.2 d_M_below_50
        · skip
          have c_28 : ¬ xb ≤ xa := fun h9 => c_28 ((lg_cmp_ge _ _).mpr h9)
          refine lv_iconst (v := 1) hx hb d_M_below_31 (by decide) ?_
          refine lv_goto (tgt := 50) hx hb d_M_below_32 (by decide) ?_
          have hE : g_M_below xa xb = (true) := by clear hP hD hl hS; subst ej22_0; subst ej11_0; unfold g_M_below; (try dsimp only); rw [if_pos c_22, if_neg c_28]
          have hP9 : va_P (dC, dI) classes [] H := by exact hP.sub [] rfl
          have hD9 : va_D A [] := by exact hD.sub [] (by decide) rfl
          exact W.zret (v := 1) hx hb hr (by first | exact nar_b2i _ | rfl) (fun t ht hW => ⟨⟨1, (), rfl, by rw [hE]; rfl, by rw [ht]; exact hP9, hD9⟩, hS.F ht⟩) hS.2.2 d_M_below_50
    · skip
      refine lv_if_lt (tgt := 21) hx hb d_M_below_14 (by decide) (fun c_14 => ?_) (fun c_14 => ?_)
      · skip
        have c_14 : xb < 0 := (lg_cmp_lt _ _).mp c_14
        refine lv_iconst (v := 0) hx hb d_M_below_21 (by decide) ?_
        exact J22 (false) H locs ls ⟨by clear hP hD hl hS; (try dsimp only); rw [if_pos c_14], hP.sub [] rfl, hD.sub [] (by decide) rfl, hS, lv_sub hl [0, 1] rfl⟩
      · skip
        have c_14 : ¬ xb < 0 := fun h9 => c_14 ((lg_cmp_lt _ _).mpr h9)
        refine lv_iconst (v := 1) hx hb d_M_below_17 (by decide) ?_
        refine lv_goto (tgt := 22) hx hb d_M_below_18 (by decide) ?_
        exact J22 (true) H locs ls ⟨by clear hP hD hl hS; (try dsimp only); rw [if_neg c_14], hP.sub [] rfl, hD.sub [] (by decide) rfl, hS, lv_sub hl [0, 1] rfl⟩
  · skip
    refine lv_if_lt (tgt := 10) hx hb d_M_below_3 (by decide) (fun c_3 => ?_) (fun c_3 => ?_)
    · skip
      have c_3 : xa < 0 := (lg_cmp_lt _ _).mp c_3
      refine lv_iconst (v := 0) hx hb d_M_below_10 (by decide) ?_
      exact J11 (false) H locs ls ⟨by clear hP hD hl hS; (try dsimp only); rw [if_pos c_3], hP.sub [] rfl, hD.sub [] (by decide) rfl, hS, lv_sub hl [0, 1] rfl⟩
    · skip
      have c_3 : ¬ xa < 0 := fun h9 => c_3 ((lg_cmp_lt _ _).mpr h9)
      refine lv_iconst (v := 1) hx hb d_M_below_6 (by decide) ?_
      refine lv_goto (tgt := 11) hx hb d_M_below_7 (by decide) ?_
      exact J11 (true) H locs ls ⟨by clear hP hD hl hS; (try dsimp only); rw [if_neg c_3], hP.sub [] rfl, hD.sub [] (by decide) rfl, hS, lv_sub hl [0, 1] rfl⟩
theorem d_M_thrown_0 : decode b_M_thrown 0 = .ok (.aload_n 0, 1) := by decide +kernel
theorem d_M_thrown_1 : decode b_M_thrown 1 = .ok (.getfield 35, 3) := by decide +kernel
theorem d_M_thrown_4 : decode b_M_thrown 4 = .ok (.ireturn, 1) := by decide +kernel
set_option maxHeartbeats 4000000 in
set_option maxRecDepth 100000 in
theorem c_M_thrown (l : Launch) (dC : Nat → ClassId) (dI : Nat → Nat → Nat) (bM : Nat) (bT : Nat) (bF : Nat) (bN : Nat) (bP : Nat) (bQ : Nat) (bR : Nat) (sz : Nat) (cd : Int32) (wd : Int32) (al : Int32) (sz1 : Int32) (un : Int32) (mo : Bool) (tl : Int32) (sp : Bool) (tpo : Int32) (fro : Int64) (ly : Bool) : Met l y_M_thrown w_M_thrown ({ frames := 0, cells := 0, slots := 0, locals := 0 }) (cPc (dC, dI) [] [.ref bM] [(bM, .inr (3, [.int cd, .int wd, .ref bT, .ref bF, .int al, .ref bN, .ref bP, .ref bQ, .ref bR, .int sz1, .int un, .int (b2i mo), .int tl, .int (b2i sp), .int tpo, .long fro, .int (b2i ly)]))] sz) (va_Qi (fun (r : Int32) (_ : Unit) => r = (g_M_thrown cd)) (fun _ t => va_P (dC, dI) classes [(bM, .inr (3, [.int cd, .int wd, .ref bT, .ref bF, .int al, .ref bN, .ref bP, .ref bQ, .ref bR, .int sz1, .int un, .int (b2i mo), .int tl, .int (b2i sp), .int tpo, .long fro, .int (b2i ly)]))] t.heap ∧ va_D (va_A [(bM, .inr (3, [.int cd, .int wd, .ref bT, .ref bF, .int al, .ref bN, .ref bP, .ref bQ, .ref bR, .int sz1, .int un, .int (b2i mo), .int tl, .int (b2i sp), .int tpo, .long fro, .int (b2i ly)]))] sz) [(bM, .inr (3, [.int cd, .int wd, .ref bT, .ref bF, .int al, .ref bN, .ref bP, .ref bQ, .ref bR, .int sz1, .int un, .int (b2i mo), .int tl, .int (b2i sp), .int tpo, .long fro, .int (b2i ly)]))]) (va_A [(bM, .inr (3, [.int cd, .int wd, .ref bT, .ref bF, .int al, .ref bN, .ref bP, .ref bQ, .ref bR, .int sz1, .int un, .int (b2i mo), .int tl, .int (b2i sp), .int tpo, .long fro, .int (b2i ly)]))] sz)) 0 0 (va_A [(bM, .inr (3, [.int cd, .int wd, .ref bT, .ref bF, .int al, .ref bN, .ref bP, .ref bQ, .ref bR, .int sz1, .int un, .int (b2i mo), .int tl, .int (b2i sp), .int tpo, .long fro, .int (b2i ly)]))] sz) := by
  refine Met.ofW (cc := b_M_thrown) (maxL := 1) (ret := (some .int)) (by decide) rfl ?_
  intro p e s m args below meth c s₁ B hml hv
  obtain ⟨rfl, hsz, hP, hK, hD0, hnw⟩ := hv
  have hx := B.exec
  have hb := B.bytes
  have hr := B.returns
  have hts := atoms_spec (ws := w_M_thrown) B.pre
  have htA : ∀ w ∈ wAll, w.before _ s = true := fun w h => hts w (List.mem_cons_of_mem _ h)
  have hown : s.vm.findClass R_M = some m.cls := findClass_of_methodNamed B.named
  have hlocks := B.notSynchronized
  subst hsz
  have hD := hD0.self (sz := s.heap.size)
  generalize hAe : va_A [(bM, .inr (3, [.int cd, .int wd, .ref bT, .ref bF, .int al, .ref bN, .ref bP, .ref bQ, .ref bR, .int sz1, .int un, .int (b2i mo), .int tl, .int (b2i sp), .int tpo, .long fro, .int (b2i ly)]))] s.heap.size = A at hD ⊢
  have hA : ∀ q : Nat, s.heap.size ≤ q → A q := fun q h => by rw [← hAe]; exact Or.inr h
  have hS : va_S A s.heap s.heap [] := va_S.rf
  have hP : va_P (dC, dI) classes [(bM, .inr (3, [.int cd, .int wd, .ref bT, .ref bF, .int al, .ref bN, .ref bP, .ref bQ, .ref bR, .int sz1, .int un, .int (b2i mo), .int tl, .int (b2i sp), .int tpo, .long fro, .int (b2i ly)]))] s.heap := hP
  obtain ⟨H, eH⟩ : ∃ z, z = s.heap := ⟨_, rfl⟩
  rw [← eH] at hP
  have hS : va_S A s.heap H [] := by rw [eH]; exact hS
  rw [← eH]
  generalize ([] : List Loc) = locs at hS ⊢
  have hl := lv_entry ([.ref bM]) (n := 1) (Nat.le_of_ble_eq_true rfl)
  rw [lg_entry_eq]
  generalize (lg_sl ([.ref bM]) ++ List.replicate (1 - (lg_sl ([.ref bM])).length) Slot.unset).toArray = ls at hl ⊢
  have hl : lv_has ls 1 [(0, .ref bM)] := hl
  refine lv_aload_n hx hb d_M_thrown_0 rfl (lv_at hl 0 rfl) ?_
  refine va_get (D := (dC, dI)) (ci := 3) (v := .int cd) (C := R_M) (T := F_M) (N := 17) hx hb htA in_M hown hK hP 0 rfl rfl 0 (by decide) (htA _ k_239) (fun _ h9 => h9) rfl d_M_thrown_1 ?_
  have hE : g_M_thrown cd = (cd) := by clear hP hD hl hS; unfold g_M_thrown; rfl
  have hP9 : va_P (dC, dI) classes [(bM, .inr (3, [.int cd, .int wd, .ref bT, .ref bF, .int al, .ref bN, .ref bP, .ref bQ, .ref bR, .int sz1, .int un, .int (b2i mo), .int tl, .int (b2i sp), .int tpo, .long fro, .int (b2i ly)]))] H := by exact hP.sub [0] rfl
  have hD9 : va_D A [(bM, .inr (3, [.int cd, .int wd, .ref bT, .ref bF, .int al, .ref bN, .ref bP, .ref bQ, .ref bR, .int sz1, .int un, .int (b2i mo), .int tl, .int (b2i sp), .int tpo, .long fro, .int (b2i ly)]))] := by exact hD.sub [0] (by decide) rfl
  exact W.iret (v := cd) hx hb hr (fun t ht hW => ⟨⟨cd, (), rfl, by rw [hE], by rw [ht]; exact hP9, hD9⟩, hS.F ht⟩) hS.2.2 d_M_thrown_4
theorem d_M_told_0 : decode b_M_told 0 = .ok (.aload_n 0, 1) := by decide +kernel
theorem d_M_told_1 : decode b_M_told 1 = .ok (.iconst 0, 1) := by decide +kernel
theorem d_M_told_2 : decode b_M_told 2 = .ok (.putfield 35, 3) := by decide +kernel
theorem d_M_told_5 : decode b_M_told 5 = .ok (.aload_n 0, 1) := by decide +kernel
theorem d_M_told_6 : decode b_M_told 6 = .ok (.getfield 45, 3) := by decide +kernel
theorem d_M_told_9 : decode b_M_told 9 = .ok (.ireturn, 1) := by decide +kernel
set_option maxHeartbeats 4000000 in
set_option maxRecDepth 100000 in
theorem c_M_told (l : Launch) (dC : Nat → ClassId) (dI : Nat → Nat → Nat) (bM : Nat) (bT : Nat) (bF : Nat) (bN : Nat) (bP : Nat) (bQ : Nat) (bR : Nat) (sz : Nat) (cd : Int32) (wd : Int32) (al : Int32) (sz1 : Int32) (un : Int32) (mo : Bool) (tl : Int32) (sp : Bool) (tpo : Int32) (fro : Int64) (ly : Bool) : Met l y_M_told w_M_told ({ frames := 0, cells := 0, slots := 0, locals := 0 }) (cPc (dC, dI) [] [.ref bM] [(bM, .inr (3, [.int cd, .int wd, .ref bT, .ref bF, .int al, .ref bN, .ref bP, .ref bQ, .ref bR, .int sz1, .int un, .int (b2i mo), .int tl, .int (b2i sp), .int tpo, .long fro, .int (b2i ly)]))] sz) (va_Qi (fun (r : Int32) (_ : Unit) => r = (g_M_told al)) (fun _ t => va_P (dC, dI) classes [(bM, .inr (3, [.int 0, .int wd, .ref bT, .ref bF, .int al, .ref bN, .ref bP, .ref bQ, .ref bR, .int sz1, .int un, .int (b2i mo), .int tl, .int (b2i sp), .int tpo, .long fro, .int (b2i ly)]))] t.heap ∧ va_D (va_A [(bM, .inr (3, [.int cd, .int wd, .ref bT, .ref bF, .int al, .ref bN, .ref bP, .ref bQ, .ref bR, .int sz1, .int un, .int (b2i mo), .int tl, .int (b2i sp), .int tpo, .long fro, .int (b2i ly)]))] sz) [(bM, .inr (3, [.int 0, .int wd, .ref bT, .ref bF, .int al, .ref bN, .ref bP, .ref bQ, .ref bR, .int sz1, .int un, .int (b2i mo), .int tl, .int (b2i sp), .int tpo, .long fro, .int (b2i ly)]))]) (va_A [(bM, .inr (3, [.int cd, .int wd, .ref bT, .ref bF, .int al, .ref bN, .ref bP, .ref bQ, .ref bR, .int sz1, .int un, .int (b2i mo), .int tl, .int (b2i sp), .int tpo, .long fro, .int (b2i ly)]))] sz)) 0 0 (va_A [(bM, .inr (3, [.int cd, .int wd, .ref bT, .ref bF, .int al, .ref bN, .ref bP, .ref bQ, .ref bR, .int sz1, .int un, .int (b2i mo), .int tl, .int (b2i sp), .int tpo, .long fro, .int (b2i ly)]))] sz) := by
  refine Met.ofW (cc := b_M_told) (maxL := 1) (ret := (some .int)) (by decide) rfl ?_
  intro p e s m args below meth c s₁ B hml hv
  obtain ⟨rfl, hsz, hP, hK, hD0, hnw⟩ := hv
  have hx := B.exec
  have hb := B.bytes
  have hr := B.returns
  have hts := atoms_spec (ws := w_M_told) B.pre
  have htA : ∀ w ∈ wAll, w.before _ s = true := fun w h => hts w (List.mem_cons_of_mem _ h)
  have hown : s.vm.findClass R_M = some m.cls := findClass_of_methodNamed B.named
  have hlocks := B.notSynchronized
  subst hsz
  have hD := hD0.self (sz := s.heap.size)
  generalize hAe : va_A [(bM, .inr (3, [.int cd, .int wd, .ref bT, .ref bF, .int al, .ref bN, .ref bP, .ref bQ, .ref bR, .int sz1, .int un, .int (b2i mo), .int tl, .int (b2i sp), .int tpo, .long fro, .int (b2i ly)]))] s.heap.size = A at hD ⊢
  have hA : ∀ q : Nat, s.heap.size ≤ q → A q := fun q h => by rw [← hAe]; exact Or.inr h
  have hS : va_S A s.heap s.heap [] := va_S.rf
  have hP : va_P (dC, dI) classes [(bM, .inr (3, [.int cd, .int wd, .ref bT, .ref bF, .int al, .ref bN, .ref bP, .ref bQ, .ref bR, .int sz1, .int un, .int (b2i mo), .int tl, .int (b2i sp), .int tpo, .long fro, .int (b2i ly)]))] s.heap := hP
  obtain ⟨H, eH⟩ : ∃ z, z = s.heap := ⟨_, rfl⟩
  rw [← eH] at hP
  have hS : va_S A s.heap H [] := by rw [eH]; exact hS
  rw [← eH]
  generalize ([] : List Loc) = locs at hS ⊢
  have hl := lv_entry ([.ref bM]) (n := 1) (Nat.le_of_ble_eq_true rfl)
  rw [lg_entry_eq]
  generalize (lg_sl ([.ref bM]) ++ List.replicate (1 - (lg_sl ([.ref bM])).length) Slot.unset).toArray = ls at hl ⊢
  have hl : lv_has ls 1 [(0, .ref bM)] := hl
  refine lv_aload_n hx hb d_M_told_0 rfl (lv_at hl 0 rfl) ?_
  refine lv_iconst (v := 0) hx hb d_M_told_1 (by decide) ?_
  refine va_put (D := (dC, dI)) (ci := 3) (v := .int 0) (ty := .int) (C := R_M) (T := F_M) (N := 17) hx hb htA in_M t_M t_M_ok n_M hown hK hP hD hS 0 rfl rfl 0 (by decide) (htA _ k_239) (fun _ h9 => h9) rfl (by decide +kernel) rfl rfl (Nat.le_of_ble_eq_true rfl) d_M_told_2 (fun H locs hP hD hS => ?_)
  have hP : va_P (dC, dI) classes [(bM, .inr (3, [.int 0, .int wd, .ref bT, .ref bF, .int al, .ref bN, .ref bP, .ref bQ, .ref bR, .int sz1, .int un, .int (b2i mo), .int tl, .int (b2i sp), .int tpo, .long fro, .int (b2i ly)]))] H := hP
  have hD : va_D A [(bM, .inr (3, [.int 0, .int wd, .ref bT, .ref bF, .int al, .ref bN, .ref bP, .ref bQ, .ref bR, .int sz1, .int un, .int (b2i mo), .int tl, .int (b2i sp), .int tpo, .long fro, .int (b2i ly)]))] := hD
  refine lv_aload_n hx hb d_M_told_5 rfl (lv_at hl 0 rfl) ?_
  refine va_get (D := (dC, dI)) (ci := 3) (v := .int al) (C := R_M) (T := F_M) (N := 17) hx hb htA in_M hown hK hP 0 rfl rfl 4 (by decide) (htA _ k_241) (fun _ h9 => h9) rfl d_M_told_6 ?_
  have hE : g_M_told al = (al) := by clear hP hD hl hS; unfold g_M_told; rfl
  have hP9 : va_P (dC, dI) classes [(bM, .inr (3, [.int 0, .int wd, .ref bT, .ref bF, .int al, .ref bN, .ref bP, .ref bQ, .ref bR, .int sz1, .int un, .int (b2i mo), .int tl, .int (b2i sp), .int tpo, .long fro, .int (b2i ly)]))] H := by exact hP.sub [0] rfl
  have hD9 : va_D A [(bM, .inr (3, [.int 0, .int wd, .ref bT, .ref bF, .int al, .ref bN, .ref bP, .ref bQ, .ref bR, .int sz1, .int un, .int (b2i mo), .int tl, .int (b2i sp), .int tpo, .long fro, .int (b2i ly)]))] := by exact hD.sub [0] (by decide) rfl
  exact W.iret (v := al) hx hb hr (fun t ht hW => ⟨⟨al, (), rfl, by rw [hE], by rw [ht]; exact hP9, hD9⟩, hS.F ht⟩) hS.2.2 d_M_told_9
theorem d_M_clear_0 : decode b_M_clear 0 = .ok (.aload_n 0, 1) := by decide +kernel
theorem d_M_clear_1 : decode b_M_clear 1 = .ok (.iconst 0, 1) := by decide +kernel
theorem d_M_clear_2 : decode b_M_clear 2 = .ok (.putfield 35, 3) := by decide +kernel
theorem d_M_clear_5 : decode b_M_clear 5 = .ok (.aload_n 0, 1) := by decide +kernel
theorem d_M_clear_6 : decode b_M_clear 6 = .ok (.iconst 0, 1) := by decide +kernel
theorem d_M_clear_7 : decode b_M_clear 7 = .ok (.putfield 45, 3) := by decide +kernel
theorem d_M_clear_10 : decode b_M_clear 10 = .ok (.return_, 1) := by decide +kernel
set_option maxHeartbeats 4000000 in
set_option maxRecDepth 100000 in
theorem c_M_clear (l : Launch) (dC : Nat → ClassId) (dI : Nat → Nat → Nat) (bM : Nat) (bT : Nat) (bF : Nat) (bN : Nat) (bP : Nat) (bQ : Nat) (bR : Nat) (sz : Nat) (cd : Int32) (wd : Int32) (al : Int32) (sz1 : Int32) (un : Int32) (mo : Bool) (tl : Int32) (sp : Bool) (tpo : Int32) (fro : Int64) (ly : Bool) : Met l y_M_clear w_M_clear ({ frames := 0, cells := 0, slots := 0, locals := 0 }) (cPc (dC, dI) [] [.ref bM] [(bM, .inr (3, [.int cd, .int wd, .ref bT, .ref bF, .int al, .ref bN, .ref bP, .ref bQ, .ref bR, .int sz1, .int un, .int (b2i mo), .int tl, .int (b2i sp), .int tpo, .long fro, .int (b2i ly)]))] sz) (va_Qv (fun (_ : Unit) => True) (fun _ t => va_P (dC, dI) classes [(bM, .inr (3, [.int 0, .int wd, .ref bT, .ref bF, .int 0, .ref bN, .ref bP, .ref bQ, .ref bR, .int sz1, .int un, .int (b2i mo), .int tl, .int (b2i sp), .int tpo, .long fro, .int (b2i ly)]))] t.heap ∧ va_D (va_A [(bM, .inr (3, [.int cd, .int wd, .ref bT, .ref bF, .int al, .ref bN, .ref bP, .ref bQ, .ref bR, .int sz1, .int un, .int (b2i mo), .int tl, .int (b2i sp), .int tpo, .long fro, .int (b2i ly)]))] sz) [(bM, .inr (3, [.int 0, .int wd, .ref bT, .ref bF, .int 0, .ref bN, .ref bP, .ref bQ, .ref bR, .int sz1, .int un, .int (b2i mo), .int tl, .int (b2i sp), .int tpo, .long fro, .int (b2i ly)]))]) (va_A [(bM, .inr (3, [.int cd, .int wd, .ref bT, .ref bF, .int al, .ref bN, .ref bP, .ref bQ, .ref bR, .int sz1, .int un, .int (b2i mo), .int tl, .int (b2i sp), .int tpo, .long fro, .int (b2i ly)]))] sz)) 0 0 (va_A [(bM, .inr (3, [.int cd, .int wd, .ref bT, .ref bF, .int al, .ref bN, .ref bP, .ref bQ, .ref bR, .int sz1, .int un, .int (b2i mo), .int tl, .int (b2i sp), .int tpo, .long fro, .int (b2i ly)]))] sz) := by
  refine Met.ofW (cc := b_M_clear) (maxL := 1) (ret := none) (by decide) rfl ?_
  intro p e s m args below meth c s₁ B hml hv
  obtain ⟨rfl, hsz, hP, hK, hD0, hnw⟩ := hv
  have hx := B.exec
  have hb := B.bytes
  have hr := B.returns
  have hts := atoms_spec (ws := w_M_clear) B.pre
  have htA : ∀ w ∈ wAll, w.before _ s = true := fun w h => hts w (List.mem_cons_of_mem _ h)
  have hown : s.vm.findClass R_M = some m.cls := findClass_of_methodNamed B.named
  have hlocks := B.notSynchronized
  subst hsz
  have hD := hD0.self (sz := s.heap.size)
  generalize hAe : va_A [(bM, .inr (3, [.int cd, .int wd, .ref bT, .ref bF, .int al, .ref bN, .ref bP, .ref bQ, .ref bR, .int sz1, .int un, .int (b2i mo), .int tl, .int (b2i sp), .int tpo, .long fro, .int (b2i ly)]))] s.heap.size = A at hD ⊢
  have hA : ∀ q : Nat, s.heap.size ≤ q → A q := fun q h => by rw [← hAe]; exact Or.inr h
  have hS : va_S A s.heap s.heap [] := va_S.rf
  have hP : va_P (dC, dI) classes [(bM, .inr (3, [.int cd, .int wd, .ref bT, .ref bF, .int al, .ref bN, .ref bP, .ref bQ, .ref bR, .int sz1, .int un, .int (b2i mo), .int tl, .int (b2i sp), .int tpo, .long fro, .int (b2i ly)]))] s.heap := hP
  obtain ⟨H, eH⟩ : ∃ z, z = s.heap := ⟨_, rfl⟩
  rw [← eH] at hP
  have hS : va_S A s.heap H [] := by rw [eH]; exact hS
  rw [← eH]
  generalize ([] : List Loc) = locs at hS ⊢
  have hl := lv_entry ([.ref bM]) (n := 1) (Nat.le_of_ble_eq_true rfl)
  rw [lg_entry_eq]
  generalize (lg_sl ([.ref bM]) ++ List.replicate (1 - (lg_sl ([.ref bM])).length) Slot.unset).toArray = ls at hl ⊢
  have hl : lv_has ls 1 [(0, .ref bM)] := hl
  refine lv_aload_n hx hb d_M_clear_0 rfl (lv_at hl 0 rfl) ?_
  refine lv_iconst (v := 0) hx hb d_M_clear_1 (by decide) ?_
  refine va_put (D := (dC, dI)) (ci := 3) (v := .int 0) (ty := .int) (C := R_M) (T := F_M) (N := 17) hx hb htA in_M t_M t_M_ok n_M hown hK hP hD hS 0 rfl rfl 0 (by decide) (htA _ k_239) (fun _ h9 => h9) rfl (by decide +kernel) rfl rfl (Nat.le_of_ble_eq_true rfl) d_M_clear_2 (fun H locs hP hD hS => ?_)
  have hP : va_P (dC, dI) classes [(bM, .inr (3, [.int 0, .int wd, .ref bT, .ref bF, .int al, .ref bN, .ref bP, .ref bQ, .ref bR, .int sz1, .int un, .int (b2i mo), .int tl, .int (b2i sp), .int tpo, .long fro, .int (b2i ly)]))] H := hP
  have hD : va_D A [(bM, .inr (3, [.int 0, .int wd, .ref bT, .ref bF, .int al, .ref bN, .ref bP, .ref bQ, .ref bR, .int sz1, .int un, .int (b2i mo), .int tl, .int (b2i sp), .int tpo, .long fro, .int (b2i ly)]))] := hD
  refine lv_aload_n hx hb d_M_clear_5 rfl (lv_at hl 0 rfl) ?_
  refine lv_iconst (v := 0) hx hb d_M_clear_6 (by decide) ?_
  refine va_put (D := (dC, dI)) (ci := 3) (v := .int 0) (ty := .int) (C := R_M) (T := F_M) (N := 17) hx hb htA in_M t_M t_M_ok n_M hown hK hP hD hS 0 rfl rfl 4 (by decide) (htA _ k_241) (fun _ h9 => h9) rfl (by decide +kernel) rfl rfl (Nat.le_of_ble_eq_true rfl) d_M_clear_7 (fun H locs hP hD hS => ?_)
  have hP : va_P (dC, dI) classes [(bM, .inr (3, [.int 0, .int wd, .ref bT, .ref bF, .int 0, .ref bN, .ref bP, .ref bQ, .ref bR, .int sz1, .int un, .int (b2i mo), .int tl, .int (b2i sp), .int tpo, .long fro, .int (b2i ly)]))] H := hP
  have hD : va_D A [(bM, .inr (3, [.int 0, .int wd, .ref bT, .ref bF, .int 0, .ref bN, .ref bP, .ref bQ, .ref bR, .int sz1, .int un, .int (b2i mo), .int tl, .int (b2i sp), .int tpo, .long fro, .int (b2i ly)]))] := hD
  have hP9 : va_P (dC, dI) classes [(bM, .inr (3, [.int 0, .int wd, .ref bT, .ref bF, .int 0, .ref bN, .ref bP, .ref bQ, .ref bR, .int sz1, .int un, .int (b2i mo), .int tl, .int (b2i sp), .int tpo, .long fro, .int (b2i ly)]))] H := by exact hP.sub [0] rfl
  have hD9 : va_D A [(bM, .inr (3, [.int 0, .int wd, .ref bT, .ref bF, .int 0, .ref bN, .ref bP, .ref bQ, .ref bR, .int sz1, .int un, .int (b2i mo), .int tl, .int (b2i sp), .int tpo, .long fro, .int (b2i ly)]))] := by exact hD.sub [0] (by decide) rfl
  exact W.vret hx hb hr (fun t ht hW => ⟨⟨(), rfl, trivial, by rw [ht]; exact hP9, hD9⟩, hS.F ht⟩) hS.2.2 d_M_clear_10
theorem d_M_digits_0 : decode b_M_digits 0 = .ok (.aload_n 0, 1) := by decide +kernel
theorem d_M_digits_1 : decode b_M_digits 1 = .ok (.getfield 7, 3) := by decide +kernel
theorem d_M_digits_4 : decode b_M_digits 4 = .ok (.sipush 256, 3) := by decide +kernel
theorem d_M_digits_7 : decode b_M_digits 7 = .ok (.idiv, 1) := by decide +kernel
theorem d_M_digits_8 : decode b_M_digits 8 = .ok (.iconst 4, 1) := by decide +kernel
theorem d_M_digits_9 : decode b_M_digits 9 = .ok (.irem, 1) := by decide +kernel
theorem d_M_digits_10 : decode b_M_digits 10 = .ok (.istore_n 1, 1) := by decide +kernel
theorem d_M_digits_11 : decode b_M_digits 11 = .ok (.iload_n 1, 1) := by decide +kernel
theorem d_M_digits_12 : decode b_M_digits 12 = .ok (.ifCond .ne 8, 3) := by decide +kernel
theorem d_M_digits_20 : decode b_M_digits 20 = .ok (.iload_n 1, 1) := by decide +kernel
theorem d_M_digits_21 : decode b_M_digits 21 = .ok (.iconst 2, 1) := by decide +kernel
theorem d_M_digits_22 : decode b_M_digits 22 = .ok (.if_icmp .ne 8, 3) := by decide +kernel
theorem d_M_digits_30 : decode b_M_digits 30 = .ok (.bipush 64, 2) := by decide +kernel
theorem d_M_digits_32 : decode b_M_digits 32 = .ok (.ireturn, 1) := by decide +kernel
theorem d_M_digits_25 : decode b_M_digits 25 = .ok (.bipush 53, 2) := by decide +kernel
theorem d_M_digits_27 : decode b_M_digits 27 = .ok (.goto 5, 3) := by decide +kernel
theorem d_M_digits_15 : decode b_M_digits 15 = .ok (.bipush 24, 2) := by decide +kernel
theorem d_M_digits_17 : decode b_M_digits 17 = .ok (.goto 15, 3) := by decide +kernel
set_option maxHeartbeats 4000000 in
set_option maxRecDepth 100000 in
theorem c_M_digits (l : Launch) (dC : Nat → ClassId) (dI : Nat → Nat → Nat) (bM : Nat) (bT : Nat) (bF : Nat) (bN : Nat) (bP : Nat) (bQ : Nat) (bR : Nat) (sz : Nat) (cd : Int32) (wd : Int32) (al : Int32) (sz1 : Int32) (un : Int32) (mo : Bool) (tl : Int32) (sp : Bool) (tpo : Int32) (fro : Int64) (ly : Bool) : Met l y_M_digits w_M_digits ({ frames := 0, cells := 0, slots := 0, locals := 0 }) (cPc (dC, dI) [] [.ref bM] [(bM, .inr (3, [.int cd, .int wd, .ref bT, .ref bF, .int al, .ref bN, .ref bP, .ref bQ, .ref bR, .int sz1, .int un, .int (b2i mo), .int tl, .int (b2i sp), .int tpo, .long fro, .int (b2i ly)]))] sz) (va_Qi (fun (r : Int32) (_ : Unit) => r = (g_M_digits wd)) (fun _ t => va_P (dC, dI) classes [(bM, .inr (3, [.int cd, .int wd, .ref bT, .ref bF, .int al, .ref bN, .ref bP, .ref bQ, .ref bR, .int sz1, .int un, .int (b2i mo), .int tl, .int (b2i sp), .int tpo, .long fro, .int (b2i ly)]))] t.heap ∧ va_D (va_A [(bM, .inr (3, [.int cd, .int wd, .ref bT, .ref bF, .int al, .ref bN, .ref bP, .ref bQ, .ref bR, .int sz1, .int un, .int (b2i mo), .int tl, .int (b2i sp), .int tpo, .long fro, .int (b2i ly)]))] sz) [(bM, .inr (3, [.int cd, .int wd, .ref bT, .ref bF, .int al, .ref bN, .ref bP, .ref bQ, .ref bR, .int sz1, .int un, .int (b2i mo), .int tl, .int (b2i sp), .int tpo, .long fro, .int (b2i ly)]))]) (va_A [(bM, .inr (3, [.int cd, .int wd, .ref bT, .ref bF, .int al, .ref bN, .ref bP, .ref bQ, .ref bR, .int sz1, .int un, .int (b2i mo), .int tl, .int (b2i sp), .int tpo, .long fro, .int (b2i ly)]))] sz)) 0 0 (va_A [(bM, .inr (3, [.int cd, .int wd, .ref bT, .ref bF, .int al, .ref bN, .ref bP, .ref bQ, .ref bR, .int sz1, .int un, .int (b2i mo), .int tl, .int (b2i sp), .int tpo, .long fro, .int (b2i ly)]))] sz) := by
  refine Met.ofW (cc := b_M_digits) (maxL := 2) (ret := (some .int)) (by decide) rfl ?_
  intro p e s m args below meth c s₁ B hml hv
  obtain ⟨rfl, hsz, hP, hK, hD0, hnw⟩ := hv
  have hx := B.exec
  have hb := B.bytes
  have hr := B.returns
  have hts := atoms_spec (ws := w_M_digits) B.pre
  have htA : ∀ w ∈ wAll, w.before _ s = true := fun w h => hts w (List.mem_cons_of_mem _ h)
  have hown : s.vm.findClass R_M = some m.cls := findClass_of_methodNamed B.named
  have hlocks := B.notSynchronized
  subst hsz
  have hD := hD0.self (sz := s.heap.size)
  generalize hAe : va_A [(bM, .inr (3, [.int cd, .int wd, .ref bT, .ref bF, .int al, .ref bN, .ref bP, .ref bQ, .ref bR, .int sz1, .int un, .int (b2i mo), .int tl, .int (b2i sp), .int tpo, .long fro, .int (b2i ly)]))] s.heap.size = A at hD ⊢
  have hA : ∀ q : Nat, s.heap.size ≤ q → A q := fun q h => by rw [← hAe]; exact Or.inr h
  have hS : va_S A s.heap s.heap [] := va_S.rf
  have hP : va_P (dC, dI) classes [(bM, .inr (3, [.int cd, .int wd, .ref bT, .ref bF, .int al, .ref bN, .ref bP, .ref bQ, .ref bR, .int sz1, .int un, .int (b2i mo), .int tl, .int (b2i sp), .int tpo, .long fro, .int (b2i ly)]))] s.heap := hP
  obtain ⟨H, eH⟩ : ∃ z, z = s.heap := ⟨_, rfl⟩
  rw [← eH] at hP
  have hS : va_S A s.heap H [] := by rw [eH]; exact hS
  rw [← eH]
  generalize ([] : List Loc) = locs at hS ⊢
  have hl := lv_entry ([.ref bM]) (n := 2) (Nat.le_of_ble_eq_true rfl)
  rw [lg_entry_eq]
  generalize (lg_sl ([.ref bM]) ++ List.replicate (2 - (lg_sl ([.ref bM])).length) Slot.unset).toArray = ls at hl ⊢
  have hl : lv_has ls 2 [(0, .ref bM)] := hl
  refine lv_aload_n hx hb d_M_digits_0 rfl (lv_at hl 0 rfl) ?_
  refine va_get (D := (dC, dI)) (ci := 3) (v := .int wd) (C := R_M) (T := F_M) (N := 17) hx hb htA in_M hown hK hP 0 rfl rfl 1 (by decide) (htA _ k_244) (fun _ h9 => h9) rfl d_M_digits_1 ?_
  refine lv_sipush (v := 256) hx hb d_M_digits_4 (by decide) ?_
  refine lv_idiv hx hb d_M_digits_7 (by decide) ?_
  refine lv_iconst (v := 4) hx hb d_M_digits_8 (by decide) ?_
  refine lv_irem hx hb d_M_digits_9 (by decide) ?_
  refine lv_istore_n (lv' := [(1, .int ((wd / 256) - (wd / 256) / 4 * 4)), (0, .ref bM)]) hx hb d_M_digits_10 rfl hl (by decide) rfl (fun ls hl => ?_)
  refine lv_iload_n hx hb d_M_digits_11 rfl (lv_at hl 0 rfl) ?_
  refine lv_if_ne (tgt := 20) hx hb d_M_digits_12 (by decide) (fun c_12 => ?_) (fun c_12 => ?_)
  · skip
    refine lv_iload_n hx hb d_M_digits_20 rfl (lv_at hl 0 rfl) ?_
    refine lv_iconst (v := 2) hx hb d_M_digits_21 (by decide) ?_
    refine lv_icmp_ne (tgt := 30) hx hb d_M_digits_22 (by decide) (fun c_22 => ?_) (fun c_22 => ?_)
    · skip
      refine lv_bipush (v := 64) hx hb d_M_digits_30 (by decide) ?_
      have hE : g_M_digits wd = (64) := by clear hP hD hl hS; unfold g_M_digits; (try dsimp only); rw [if_neg c_12, if_neg c_22]
      have hP9 : va_P (dC, dI) classes [(bM, .inr (3, [.int cd, .int wd, .ref bT, .ref bF, .int al, .ref bN, .ref bP, .ref bQ, .ref bR, .int sz1, .int un, .int (b2i mo), .int tl, .int (b2i sp), .int tpo, .long fro, .int (b2i ly)]))] H := by exact hP.sub [0] rfl
      have hD9 : va_D A [(bM, .inr (3, [.int cd, .int wd, .ref bT, .ref bF, .int al, .ref bN, .ref bP, .ref bQ, .ref bR, .int sz1, .int un, .int (b2i mo), .int tl, .int (b2i sp), .int tpo, .long fro, .int (b2i ly)]))] := by exact hD.sub [0] (by decide) rfl
      exact W.iret (v := 64) hx hb hr (fun t ht hW => ⟨⟨64, (), rfl, by rw [hE], by rw [ht]; exact hP9, hD9⟩, hS.F ht⟩) hS.2.2 d_M_digits_32
    · skip
      refine lv_bipush (v := 53) hx hb d_M_digits_25 (by decide) ?_
      refine lv_goto (tgt := 32) hx hb d_M_digits_27 (by decide) ?_
      have hE : g_M_digits wd = (53) := by clear hP hD hl hS; unfold g_M_digits; (try dsimp only); rw [if_neg c_12, if_pos c_22]
      have hP9 : va_P (dC, dI) classes [(bM, .inr (3, [.int cd, .int wd, .ref bT, .ref bF, .int al, .ref bN, .ref bP, .ref bQ, .ref bR, .int sz1, .int un, .int (b2i mo), .int tl, .int (b2i sp), .int tpo, .long fro, .int (b2i ly)]))] H := by exact hP.sub [0] rfl
      have hD9 : va_D A [(bM, .inr (3, [.int cd, .int wd, .ref bT, .ref bF, .int al, .ref bN, .ref bP, .ref bQ, .ref bR, .int sz1, .int un, .int (b2i mo), .int tl, .int (b2i sp), .int tpo, .long fro, .int (b2i ly)]))] := by exact hD.sub [0] (by decide) rfl
      exact W.iret (v := 53) hx hb hr (fun t ht hW => ⟨⟨53, (), rfl, by rw [hE], by rw [ht]; exact hP9, hD9⟩, hS.F ht⟩) hS.2.2 d_M_digits_32
  · skip
    refine lv_bipush (v := 24) hx hb d_M_digits_15 (by decide) ?_
    refine lv_goto (tgt := 32) hx hb d_M_digits_17 (by decide) ?_
    have hE : g_M_digits wd = (24) := by clear hP hD hl hS; unfold g_M_digits; (try dsimp only); rw [if_pos c_12]
    have hP9 : va_P (dC, dI) classes [(bM, .inr (3, [.int cd, .int wd, .ref bT, .ref bF, .int al, .ref bN, .ref bP, .ref bQ, .ref bR, .int sz1, .int un, .int (b2i mo), .int tl, .int (b2i sp), .int tpo, .long fro, .int (b2i ly)]))] H := by exact hP.sub [0] rfl
    have hD9 : va_D A [(bM, .inr (3, [.int cd, .int wd, .ref bT, .ref bF, .int al, .ref bN, .ref bP, .ref bQ, .ref bR, .int sz1, .int un, .int (b2i mo), .int tl, .int (b2i sp), .int tpo, .long fro, .int (b2i ly)]))] := by exact hD.sub [0] (by decide) rfl
    exact W.iret (v := 24) hx hb hr (fun t ht hW => ⟨⟨24, (), rfl, by rw [hE], by rw [ht]; exact hP9, hD9⟩, hS.F ht⟩) hS.2.2 d_M_digits_32
theorem d_M_control_0 : decode b_M_control 0 = .ok (.aload_n 0, 1) := by decide +kernel
theorem d_M_control_1 : decode b_M_control 1 = .ok (.iload_n 1, 1) := by decide +kernel
theorem d_M_control_2 : decode b_M_control 2 = .ok (.ifCond .lt 9, 3) := by decide +kernel
theorem d_M_control_11 : decode b_M_control 11 = .ok (.iconst 1, 1) := by decide +kernel
theorem d_M_control_12 : decode b_M_control 12 = .ok (.goto 4, 3) := by decide +kernel
theorem d_M_control_5 : decode b_M_control 5 = .ok (.iload_n 1, 1) := by decide +kernel
theorem d_M_control_6 : decode b_M_control 6 = .ok (.ldc 38, 2) := by decide +kernel
theorem d_M_control_8 : decode b_M_control 8 = .ok (.if_icmp .le 7, 3) := by decide +kernel
theorem d_M_control_15 : decode b_M_control 15 = .ok (.iconst 0, 1) := by decide +kernel
theorem d_M_control_16 : decode b_M_control 16 = .ok (.putfield 35, 3) := by decide +kernel
theorem d_M_control_19 : decode b_M_control 19 = .ok (.aload_n 0, 1) := by decide +kernel
theorem d_M_control_20 : decode b_M_control 20 = .ok (.getfield 35, 3) := by decide +kernel
theorem d_M_control_23 : decode b_M_control 23 = .ok (.ifCond .ne 8, 3) := by decide +kernel
theorem d_M_control_31 : decode b_M_control 31 = .ok (.return_, 1) := by decide +kernel
theorem d_M_control_26 : decode b_M_control 26 = .ok (.aload_n 0, 1) := by decide +kernel
theorem d_M_control_27 : decode b_M_control 27 = .ok (.iload_n 1, 1) := by decide +kernel
theorem d_M_control_28 : decode b_M_control 28 = .ok (.putfield 7, 3) := by decide +kernel
set_option maxHeartbeats 4000000 in
set_option maxRecDepth 100000 in
theorem c_M_control (l : Launch) (dC : Nat → ClassId) (dI : Nat → Nat → Nat) (bM : Nat) (bT : Nat) (bF : Nat) (bN : Nat) (bP : Nat) (bQ : Nat) (bR : Nat) (sz : Nat) (cd : Int32) (wd : Int32) (al : Int32) (sz1 : Int32) (un : Int32) (mo : Bool) (tl : Int32) (sp : Bool) (tpo : Int32) (fro : Int64) (ly : Bool) (iw : Int32) : Met l y_M_control w_M_control ({ frames := 0, cells := 0, slots := 0, locals := 0 }) (cPc (dC, dI) [] [.ref bM, .int iw] [(bM, .inr (3, [.int cd, .int wd, .ref bT, .ref bF, .int al, .ref bN, .ref bP, .ref bQ, .ref bR, .int sz1, .int un, .int (b2i mo), .int tl, .int (b2i sp), .int tpo, .long fro, .int (b2i ly)]))] sz) (va_Qv (fun (_ : Unit) => True) (fun _ t => va_P (dC, dI) classes [(bM, .inr (3, [.int ((g_M_control wd iw).1), .int ((g_M_control wd iw).2), .ref bT, .ref bF, .int al, .ref bN, .ref bP, .ref bQ, .ref bR, .int sz1, .int un, .int (b2i mo), .int tl, .int (b2i sp), .int tpo, .long fro, .int (b2i ly)]))] t.heap ∧ va_D (va_A [(bM, .inr (3, [.int cd, .int wd, .ref bT, .ref bF, .int al, .ref bN, .ref bP, .ref bQ, .ref bR, .int sz1, .int un, .int (b2i mo), .int tl, .int (b2i sp), .int tpo, .long fro, .int (b2i ly)]))] sz) [(bM, .inr (3, [.int ((g_M_control wd iw).1), .int ((g_M_control wd iw).2), .ref bT, .ref bF, .int al, .ref bN, .ref bP, .ref bQ, .ref bR, .int sz1, .int un, .int (b2i mo), .int tl, .int (b2i sp), .int tpo, .long fro, .int (b2i ly)]))]) (va_A [(bM, .inr (3, [.int cd, .int wd, .ref bT, .ref bF, .int al, .ref bN, .ref bP, .ref bQ, .ref bR, .int sz1, .int un, .int (b2i mo), .int tl, .int (b2i sp), .int tpo, .long fro, .int (b2i ly)]))] sz)) 0 0 (va_A [(bM, .inr (3, [.int cd, .int wd, .ref bT, .ref bF, .int al, .ref bN, .ref bP, .ref bQ, .ref bR, .int sz1, .int un, .int (b2i mo), .int tl, .int (b2i sp), .int tpo, .long fro, .int (b2i ly)]))] sz) := by
  refine Met.ofW (cc := b_M_control) (maxL := 2) (ret := none) (by decide) rfl ?_
  intro p e s m args below meth c s₁ B hml hv
  obtain ⟨rfl, hsz, hP, hK, hD0, hnw⟩ := hv
  have hx := B.exec
  have hb := B.bytes
  have hr := B.returns
  have hts := atoms_spec (ws := w_M_control) B.pre
  have htA : ∀ w ∈ wAll, w.before _ s = true := fun w h => hts w (List.mem_cons_of_mem _ h)
  have hown : s.vm.findClass R_M = some m.cls := findClass_of_methodNamed B.named
  have hlocks := B.notSynchronized
  subst hsz
  have hD := hD0.self (sz := s.heap.size)
  generalize hAe : va_A [(bM, .inr (3, [.int cd, .int wd, .ref bT, .ref bF, .int al, .ref bN, .ref bP, .ref bQ, .ref bR, .int sz1, .int un, .int (b2i mo), .int tl, .int (b2i sp), .int tpo, .long fro, .int (b2i ly)]))] s.heap.size = A at hD ⊢
  have hA : ∀ q : Nat, s.heap.size ≤ q → A q := fun q h => by rw [← hAe]; exact Or.inr h
  have hS : va_S A s.heap s.heap [] := va_S.rf
  have hP : va_P (dC, dI) classes [(bM, .inr (3, [.int cd, .int wd, .ref bT, .ref bF, .int al, .ref bN, .ref bP, .ref bQ, .ref bR, .int sz1, .int un, .int (b2i mo), .int tl, .int (b2i sp), .int tpo, .long fro, .int (b2i ly)]))] s.heap := hP
  obtain ⟨H, eH⟩ : ∃ z, z = s.heap := ⟨_, rfl⟩
  rw [← eH] at hP
  have hS : va_S A s.heap H [] := by rw [eH]; exact hS
  rw [← eH]
  generalize ([] : List Loc) = locs at hS ⊢
  have hl := lv_entry ([.ref bM, .int iw]) (n := 2) (Nat.le_of_ble_eq_true rfl)
  rw [lg_entry_eq]
  generalize (lg_sl ([.ref bM, .int iw]) ++ List.replicate (2 - (lg_sl ([.ref bM, .int iw])).length) Slot.unset).toArray = ls at hl ⊢
  have hl : lv_has ls 2 [(0, .ref bM), (1, .int iw)] := hl
  refine lv_aload_n hx hb d_M_control_0 rfl (lv_at hl 0 rfl) ?_
  refine lv_iload_n hx hb d_M_control_1 rfl (lv_at hl 1 rfl) ?_
  refine cut_join (X := Bool) 0 0 (fun (x : Bool) (H : Heap) (locs : List Loc) (ls : Array Slot) => (if iw < 0 then true else if iw ≤ 65535 then false else true) = x ∧ va_P (dC, dI) classes [(bM, .inr (3, [.int cd, .int wd, .ref bT, .ref bF, .int al, .ref bN, .ref bP, .ref bQ, .ref bR, .int sz1, .int un, .int (b2i mo), .int tl, .int (b2i sp), .int tpo, .long fro, .int (b2i ly)]))] H ∧ va_D A [(bM, .inr (3, [.int cd, .int wd, .ref bT, .ref bF, .int al, .ref bN, .ref bP, .ref bQ, .ref bR, .int sz1, .int un, .int (b2i mo), .int tl, .int (b2i sp), .int tpo, .long fro, .int (b2i ly)]))] ∧ va_S A s.heap H locs ∧ lv_has ls 2 [(0, .ref bM), (1, .int iw)]) (fun x ls => F0 m 16 ls [.int (b2i x), .ref bM]) ?_ (fun J16 => ?_)
  · skip
    rintro j16_0 H locs ls ⟨ej16_0, hP, hD, hS, hl⟩
    have ej16_0 : (if iw < 0 then true else if iw ≤ 65535 then false else true) = j16_0 := ej16_0
    have hP : va_P (dC, dI) classes [(bM, .inr (3, [.int cd, .int wd, .ref bT, .ref bF, .int al, .ref bN, .ref bP, .ref bQ, .ref bR, .int sz1, .int un, .int (b2i mo), .int tl, .int (b2i sp), .int tpo, .long fro, .int (b2i ly)]))] H := hP
    have hD : va_D A [(bM, .inr (3, [.int cd, .int wd, .ref bT, .ref bF, .int al, .ref bN, .ref bP, .ref bQ, .ref bR, .int sz1, .int un, .int (b2i mo), .int tl, .int (b2i sp), .int tpo, .long fro, .int (b2i ly)]))] := hD
    have hl : lv_has ls 2 [(0, .ref bM), (1, .int iw)] := hl
    refine va_put (D := (dC, dI)) (ci := 3) (v := .int (b2i j16_0)) (ty := .int) (C := R_M) (T := F_M) (N := 17) hx hb htA in_M t_M t_M_ok n_M hown hK hP hD hS 0 rfl rfl 0 (by decide) (htA _ k_239) (fun _ h9 => h9) rfl (by decide +kernel) rfl rfl (Nat.le_of_ble_eq_true rfl) d_M_control_16 (fun H locs hP hD hS => ?_)
    have hP : va_P (dC, dI) classes [(bM, .inr (3, [.int (b2i j16_0), .int wd, .ref bT, .ref bF, .int al, .ref bN, .ref bP, .ref bQ, .ref bR, .int sz1, .int un, .int (b2i mo), .int tl, .int (b2i sp), .int tpo, .long fro, .int (b2i ly)]))] H := hP
    have hD : va_D A [(bM, .inr (3, [.int (b2i j16_0), .int wd, .ref bT, .ref bF, .int al, .ref bN, .ref bP, .ref bQ, .ref bR, .int sz1, .int un, .int (b2i mo), .int tl, .int (b2i sp), .int tpo, .long fro, .int (b2i ly)]))] := hD
    refine lv_aload_n hx hb d_M_control_19 rfl (lv_at hl 0 rfl) ?_
    refine va_get (D := (dC, dI)) (ci := 3) (v := .int (b2i j16_0)) (C := R_M) (T := F_M) (N := 17) hx hb htA in_M hown hK hP 0 rfl rfl 0 (by decide) (htA _ k_239) (fun _ h9 => h9) rfl d_M_control_20 ?_
    refine lv_if_ne (tgt := 31) hx hb d_M_control_23 (by decide) (fun c_23 => ?_) (fun c_23 => ?_)
    · skip
      have c_23 : j16_0 = true := b2i_nz c_23
      have hE : g_M_control wd iw = ((b2i j16_0), wd) := by clear hP hD hl hS; subst ej16_0; unfold g_M_control; (try dsimp only); rw [if_pos c_23]
      have hP9 : va_P (dC, dI) classes [(bM, .inr (3, [.int ((g_M_control wd iw).1), .int ((g_M_control wd iw).2), .ref bT, .ref bF, .int al, .ref bN, .ref bP, .ref bQ, .ref bR, .int sz1, .int un, .int (b2i mo), .int tl, .int (b2i sp), .int tpo, .long fro, .int (b2i ly)]))] H := by rw [hE]; exact hP.sub [0] rfl
      have hD9 : va_D A [(bM, .inr (3, [.int ((g_M_control wd iw).1), .int ((g_M_control wd iw).2), .ref bT, .ref bF, .int al, .ref bN, .ref bP, .ref bQ, .ref bR, .int sz1, .int un, .int (b2i mo), .int tl, .int (b2i sp), .int tpo, .long fro, .int (b2i ly)]))] := by rw [hE]; exact hD.sub [0] (by decide) rfl
      exact W.vret hx hb hr (fun t ht hW => ⟨⟨(), rfl, trivial, by rw [ht]; exact hP9, hD9⟩, hS.F ht⟩) hS.2.2 d_M_control_31
    · skip
      have c_23 : ¬ j16_0 = true := b2i_z c_23
      refine lv_aload_n hx hb d_M_control_26 rfl (lv_at hl 0 rfl) ?_
      refine lv_iload_n hx hb d_M_control_27 rfl (lv_at hl 1 rfl) ?_
      refine va_put (D := (dC, dI)) (ci := 3) (v := .int iw) (ty := .int) (C := R_M) (T := F_M) (N := 17) hx hb htA in_M t_M t_M_ok n_M hown hK hP hD hS 0 rfl rfl 1 (by decide) (htA _ k_244) (fun _ h9 => h9) rfl (by decide +kernel) rfl rfl (Nat.le_of_ble_eq_true rfl) d_M_control_28 (fun H locs hP hD hS => ?_)
      have hP : va_P (dC, dI) classes [(bM, .inr (3, [.int (b2i j16_0), .int iw, .ref bT, .ref bF, .int al, .ref bN, .ref bP, .ref bQ, .ref bR, .int sz1, .int un, .int (b2i mo), .int tl, .int (b2i sp), .int tpo, .long fro, .int (b2i ly)]))] H := hP
      have hD : va_D A [(bM, .inr (3, [.int (b2i j16_0), .int iw, .ref bT, .ref bF, .int al, .ref bN, .ref bP, .ref bQ, .ref bR, .int sz1, .int un, .int (b2i mo), .int tl, .int (b2i sp), .int tpo, .long fro, .int (b2i ly)]))] := hD
      have hE : g_M_control wd iw = ((b2i j16_0), iw) := by clear hP hD hl hS; subst ej16_0; unfold g_M_control; (try dsimp only); rw [if_neg c_23]
      have hP9 : va_P (dC, dI) classes [(bM, .inr (3, [.int ((g_M_control wd iw).1), .int ((g_M_control wd iw).2), .ref bT, .ref bF, .int al, .ref bN, .ref bP, .ref bQ, .ref bR, .int sz1, .int un, .int (b2i mo), .int tl, .int (b2i sp), .int tpo, .long fro, .int (b2i ly)]))] H := by rw [hE]; exact hP.sub [0] rfl
      have hD9 : va_D A [(bM, .inr (3, [.int ((g_M_control wd iw).1), .int ((g_M_control wd iw).2), .ref bT, .ref bF, .int al, .ref bN, .ref bP, .ref bQ, .ref bR, .int sz1, .int un, .int (b2i mo), .int tl, .int (b2i sp), .int tpo, .long fro, .int (b2i ly)]))] := by rw [hE]; exact hD.sub [0] (by decide) rfl
      exact W.vret hx hb hr (fun t ht hW => ⟨⟨(), rfl, trivial, by rw [ht]; exact hP9, hD9⟩, hS.F ht⟩) hS.2.2 d_M_control_31
  · skip
    refine lv_if_lt (tgt := 11) hx hb d_M_control_2 (by decide) (fun c_2 => ?_) (fun c_2 => ?_)
    · skip
      refine lv_iconst (v := 1) hx hb d_M_control_11 (by decide) ?_
      refine lv_goto (tgt := 16) hx hb d_M_control_12 (by decide) ?_
      exact J16 (true) H locs ls ⟨by clear hP hD hl hS; (try dsimp only); rw [if_pos c_2], hP.sub [0] rfl, hD.sub [0] (by decide) rfl, hS, lv_sub hl [0, 1] rfl⟩
    · skip
      refine lv_iload_n hx hb d_M_control_5 rfl (lv_at hl 1 rfl) ?_
      refine lv_ldc (v := 65535) hx hb hown (htA _ k_246) d_M_control_6 ?_
      refine lv_icmp_le (tgt := 15) hx hb d_M_control_8 (by decide) (fun c_8 => ?_) (fun c_8 => ?_)
      · skip
        refine lv_iconst (v := 0) hx hb d_M_control_15 (by decide) ?_
        exact J16 (false) H locs ls ⟨by clear hP hD hl hS; (try dsimp only); rw [if_neg c_2, if_pos c_8], hP.sub [0] rfl, hD.sub [0] (by decide) rfl, hS, lv_sub hl [0, 1] rfl⟩
      · skip
        refine lv_iconst (v := 1) hx hb d_M_control_11 (by decide) ?_
        refine lv_goto (tgt := 16) hx hb d_M_control_12 (by decide) ?_
        exact J16 (true) H locs ls ⟨by clear hP hD hl hS; (try dsimp only); rw [if_neg c_2, if_neg c_8], hP.sub [0] rfl, hD.sub [0] (by decide) rfl, hS, lv_sub hl [0, 1] rfl⟩
theorem d_M_tell_0 : decode b_M_tell 0 = .ok (.aload_n 0, 1) := by decide +kernel
theorem d_M_tell_1 : decode b_M_tell 1 = .ok (.aload_n 0, 1) := by decide +kernel
theorem d_M_tell_2 : decode b_M_tell 2 = .ok (.getfield 48, 3) := by decide +kernel
theorem d_M_tell_5 : decode b_M_tell 5 = .ok (.iload_n 1, 1) := by decide +kernel
theorem d_M_tell_6 : decode b_M_tell 6 = .ok (.iadd, 1) := by decide +kernel
theorem d_M_tell_7 : decode b_M_tell 7 = .ok (.putfield 48, 3) := by decide +kernel
theorem d_M_tell_10 : decode b_M_tell 10 = .ok (.aload_n 0, 1) := by decide +kernel
theorem d_M_tell_11 : decode b_M_tell 11 = .ok (.aload_n 0, 1) := by decide +kernel
theorem d_M_tell_12 : decode b_M_tell 12 = .ok (.getfield 7, 3) := by decide +kernel
theorem d_M_tell_15 : decode b_M_tell 15 = .ok (.iload_n 1, 1) := by decide +kernel
theorem d_M_tell_16 : decode b_M_tell 16 = .ok (.iand, 1) := by decide +kernel
theorem d_M_tell_17 : decode b_M_tell 17 = .ok (.ifCond .ne 7, 3) := by decide +kernel
theorem d_M_tell_24 : decode b_M_tell 24 = .ok (.iconst 0, 1) := by decide +kernel
theorem d_M_tell_20 : decode b_M_tell 20 = .ok (.iconst 1, 1) := by decide +kernel
theorem d_M_tell_21 : decode b_M_tell 21 = .ok (.goto 4, 3) := by decide +kernel
theorem d_M_tell_25 : decode b_M_tell 25 = .ok (.putfield 51, 3) := by decide +kernel
theorem d_M_tell_28 : decode b_M_tell 28 = .ok (.aload_n 0, 1) := by decide +kernel
theorem d_M_tell_29 : decode b_M_tell 29 = .ok (.getfield 51, 3) := by decide +kernel
theorem d_M_tell_32 : decode b_M_tell 32 = .ok (.ifCond .ne 7, 3) := by decide +kernel
theorem d_M_tell_39 : decode b_M_tell 39 = .ok (.iconst 0, 1) := by decide +kernel
theorem d_M_tell_40 : decode b_M_tell 40 = .ok (.ireturn, 1) := by decide +kernel
theorem d_M_tell_35 : decode b_M_tell 35 = .ok (.iconst 1, 1) := by decide +kernel
theorem d_M_tell_36 : decode b_M_tell 36 = .ok (.goto 4, 3) := by decide +kernel
set_option maxHeartbeats 4000000 in
set_option maxRecDepth 100000 in
theorem c_M_tell (l : Launch) (dC : Nat → ClassId) (dI : Nat → Nat → Nat) (bM : Nat) (bT : Nat) (bF : Nat) (bN : Nat) (bP : Nat) (bQ : Nat) (bR : Nat) (sz : Nat) (cd : Int32) (wd : Int32) (al : Int32) (sz1 : Int32) (un : Int32) (mo : Bool) (tl : Int32) (sp : Bool) (tpo : Int32) (fro : Int64) (ly : Bool) (iv : Int32) : Met l y_M_tell w_M_tell ({ frames := 0, cells := 0, slots := 0, locals := 0 }) (cPc (dC, dI) [] [.ref bM, .int iv] [(bM, .inr (3, [.int cd, .int wd, .ref bT, .ref bF, .int al, .ref bN, .ref bP, .ref bQ, .ref bR, .int sz1, .int un, .int (b2i mo), .int tl, .int (b2i sp), .int tpo, .long fro, .int (b2i ly)]))] sz) (va_Qi (fun (r : Int32) (_ : Unit) => r = b2i ((g_M_tell wd tl iv).1)) (fun _ t => va_P (dC, dI) classes [(bM, .inr (3, [.int cd, .int wd, .ref bT, .ref bF, .int al, .ref bN, .ref bP, .ref bQ, .ref bR, .int sz1, .int un, .int (b2i mo), .int ((g_M_tell wd tl iv).2.1), .int (b2i ((g_M_tell wd tl iv).2.2)), .int tpo, .long fro, .int (b2i ly)]))] t.heap ∧ va_D (va_A [(bM, .inr (3, [.int cd, .int wd, .ref bT, .ref bF, .int al, .ref bN, .ref bP, .ref bQ, .ref bR, .int sz1, .int un, .int (b2i mo), .int tl, .int (b2i sp), .int tpo, .long fro, .int (b2i ly)]))] sz) [(bM, .inr (3, [.int cd, .int wd, .ref bT, .ref bF, .int al, .ref bN, .ref bP, .ref bQ, .ref bR, .int sz1, .int un, .int (b2i mo), .int ((g_M_tell wd tl iv).2.1), .int (b2i ((g_M_tell wd tl iv).2.2)), .int tpo, .long fro, .int (b2i ly)]))]) (va_A [(bM, .inr (3, [.int cd, .int wd, .ref bT, .ref bF, .int al, .ref bN, .ref bP, .ref bQ, .ref bR, .int sz1, .int un, .int (b2i mo), .int tl, .int (b2i sp), .int tpo, .long fro, .int (b2i ly)]))] sz)) 0 0 (va_A [(bM, .inr (3, [.int cd, .int wd, .ref bT, .ref bF, .int al, .ref bN, .ref bP, .ref bQ, .ref bR, .int sz1, .int un, .int (b2i mo), .int tl, .int (b2i sp), .int tpo, .long fro, .int (b2i ly)]))] sz) := by
  refine Met.ofW (cc := b_M_tell) (maxL := 2) (ret := (some .boolean)) (by decide) rfl ?_
  intro p e s m args below meth c s₁ B hml hv
  obtain ⟨rfl, hsz, hP, hK, hD0, hnw⟩ := hv
  have hx := B.exec
  have hb := B.bytes
  have hr := B.returns
  have hts := atoms_spec (ws := w_M_tell) B.pre
  have htA : ∀ w ∈ wAll, w.before _ s = true := fun w h => hts w (List.mem_cons_of_mem _ h)
  have hown : s.vm.findClass R_M = some m.cls := findClass_of_methodNamed B.named
  have hlocks := B.notSynchronized
  subst hsz
  have hD := hD0.self (sz := s.heap.size)
  generalize hAe : va_A [(bM, .inr (3, [.int cd, .int wd, .ref bT, .ref bF, .int al, .ref bN, .ref bP, .ref bQ, .ref bR, .int sz1, .int un, .int (b2i mo), .int tl, .int (b2i sp), .int tpo, .long fro, .int (b2i ly)]))] s.heap.size = A at hD ⊢
  have hA : ∀ q : Nat, s.heap.size ≤ q → A q := fun q h => by rw [← hAe]; exact Or.inr h
  have hS : va_S A s.heap s.heap [] := va_S.rf
  have hP : va_P (dC, dI) classes [(bM, .inr (3, [.int cd, .int wd, .ref bT, .ref bF, .int al, .ref bN, .ref bP, .ref bQ, .ref bR, .int sz1, .int un, .int (b2i mo), .int tl, .int (b2i sp), .int tpo, .long fro, .int (b2i ly)]))] s.heap := hP
  obtain ⟨H, eH⟩ : ∃ z, z = s.heap := ⟨_, rfl⟩
  rw [← eH] at hP
  have hS : va_S A s.heap H [] := by rw [eH]; exact hS
  rw [← eH]
  generalize ([] : List Loc) = locs at hS ⊢
  have hl := lv_entry ([.ref bM, .int iv]) (n := 2) (Nat.le_of_ble_eq_true rfl)
  rw [lg_entry_eq]
  generalize (lg_sl ([.ref bM, .int iv]) ++ List.replicate (2 - (lg_sl ([.ref bM, .int iv])).length) Slot.unset).toArray = ls at hl ⊢
  have hl : lv_has ls 2 [(0, .ref bM), (1, .int iv)] := hl
  refine lv_aload_n hx hb d_M_tell_0 rfl (lv_at hl 0 rfl) ?_
  refine lv_aload_n hx hb d_M_tell_1 rfl (lv_at hl 0 rfl) ?_
  refine va_get (D := (dC, dI)) (ci := 3) (v := .int tl) (C := R_M) (T := F_M) (N := 17) hx hb htA in_M hown hK hP 0 rfl rfl 12 (by decide) (htA _ k_248) (fun _ h9 => h9) rfl d_M_tell_2 ?_
  refine lv_iload_n hx hb d_M_tell_5 rfl (lv_at hl 1 rfl) ?_
  refine lv_iadd hx hb d_M_tell_6 ?_
  refine va_put (D := (dC, dI)) (ci := 3) (v := .int (tl + iv)) (ty := .int) (C := R_M) (T := F_M) (N := 17) hx hb htA in_M t_M t_M_ok n_M hown hK hP hD hS 0 rfl rfl 12 (by decide) (htA _ k_248) (fun _ h9 => h9) rfl (by decide +kernel) rfl rfl (Nat.le_of_ble_eq_true rfl) d_M_tell_7 (fun H locs hP hD hS => ?_)
  have hP : va_P (dC, dI) classes [(bM, .inr (3, [.int cd, .int wd, .ref bT, .ref bF, .int al, .ref bN, .ref bP, .ref bQ, .ref bR, .int sz1, .int un, .int (b2i mo), .int (tl + iv), .int (b2i sp), .int tpo, .long fro, .int (b2i ly)]))] H := hP
  have hD : va_D A [(bM, .inr (3, [.int cd, .int wd, .ref bT, .ref bF, .int al, .ref bN, .ref bP, .ref bQ, .ref bR, .int sz1, .int un, .int (b2i mo), .int (tl + iv), .int (b2i sp), .int tpo, .long fro, .int (b2i ly)]))] := hD
  refine lv_aload_n hx hb d_M_tell_10 rfl (lv_at hl 0 rfl) ?_
  refine lv_aload_n hx hb d_M_tell_11 rfl (lv_at hl 0 rfl) ?_
  refine va_get (D := (dC, dI)) (ci := 3) (v := .int wd) (C := R_M) (T := F_M) (N := 17) hx hb htA in_M hown hK hP 0 rfl rfl 1 (by decide) (htA _ k_244) (fun _ h9 => h9) rfl d_M_tell_12 ?_
  refine lv_iload_n hx hb d_M_tell_15 rfl (lv_at hl 1 rfl) ?_
  refine lv_iand hx hb d_M_tell_16 ?_
  refine cut_join (X := Bool) 0 0 (fun (x : Bool) (H : Heap) (locs : List Loc) (ls : Array Slot) => (if (wd &&& iv) = 0 then true else false) = x ∧ va_P (dC, dI) classes [(bM, .inr (3, [.int cd, .int wd, .ref bT, .ref bF, .int al, .ref bN, .ref bP, .ref bQ, .ref bR, .int sz1, .int un, .int (b2i mo), .int (tl + iv), .int (b2i sp), .int tpo, .long fro, .int (b2i ly)]))] H ∧ va_D A [(bM, .inr (3, [.int cd, .int wd, .ref bT, .ref bF, .int al, .ref bN, .ref bP, .ref bQ, .ref bR, .int sz1, .int un, .int (b2i mo), .int (tl + iv), .int (b2i sp), .int tpo, .long fro, .int (b2i ly)]))] ∧ va_S A s.heap H locs ∧ lv_has ls 2 [(0, .ref bM), (1, .int iv)]) (fun x ls => F0 m 25 ls [.int (b2i x), .ref bM]) ?_ (fun J25 => ?_)
  · skip
    rintro j25_0 H locs ls ⟨ej25_0, hP, hD, hS, hl⟩
    have ej25_0 : (if (wd &&& iv) = 0 then true else false) = j25_0 := ej25_0
    have hP : va_P (dC, dI) classes [(bM, .inr (3, [.int cd, .int wd, .ref bT, .ref bF, .int al, .ref bN, .ref bP, .ref bQ, .ref bR, .int sz1, .int un, .int (b2i mo), .int (tl + iv), .int (b2i sp), .int tpo, .long fro, .int (b2i ly)]))] H := hP
    have hD : va_D A [(bM, .inr (3, [.int cd, .int wd, .ref bT, .ref bF, .int al, .ref bN, .ref bP, .ref bQ, .ref bR, .int sz1, .int un, .int (b2i mo), .int (tl + iv), .int (b2i sp), .int tpo, .long fro, .int (b2i ly)]))] := hD
    have hl : lv_has ls 2 [(0, .ref bM), (1, .int iv)] := hl
    refine va_put (D := (dC, dI)) (ci := 3) (v := .int (b2i j25_0)) (ty := .boolean) (C := R_M) (T := F_M) (N := 17) hx hb htA in_M t_M t_M_ok n_M hown hK hP hD hS 0 rfl rfl 13 (by decide) (htA _ k_249) (fun _ h9 => h9) rfl (by decide +kernel) (by first | exact nar_b2i _ | rfl) (by first | exact fit_b2i _ | rfl) (Nat.le_of_ble_eq_true rfl) d_M_tell_25 (fun H locs hP hD hS => ?_)
    have hP : va_P (dC, dI) classes [(bM, .inr (3, [.int cd, .int wd, .ref bT, .ref bF, .int al, .ref bN, .ref bP, .ref bQ, .ref bR, .int sz1, .int un, .int (b2i mo), .int (tl + iv), .int (b2i j25_0), .int tpo, .long fro, .int (b2i ly)]))] H := hP
    have hD : va_D A [(bM, .inr (3, [.int cd, .int wd, .ref bT, .ref bF, .int al, .ref bN, .ref bP, .ref bQ, .ref bR, .int sz1, .int un, .int (b2i mo), .int (tl + iv), .int (b2i j25_0), .int tpo, .long fro, .int (b2i ly)]))] := hD
    refine lv_aload_n hx hb d_M_tell_28 rfl (lv_at hl 0 rfl) ?_
    refine va_get (D := (dC, dI)) (ci := 3) (v := .int (b2i j25_0)) (C := R_M) (T := F_M) (N := 17) hx hb htA in_M hown hK hP 0 rfl rfl 13 (by decide) (htA _ k_249) (fun _ h9 => h9) rfl d_M_tell_29 ?_
    refine lv_if_ne (tgt := 39) hx hb d_M_tell_32 (by decide) (fun c_32 => ?_) (fun c_32 => ?_)
    · skip
      have c_32 : j25_0 = true := b2i_nz c_32
      refine lv_iconst (v := 0) hx hb d_M_tell_39 (by decide) ?_
      have hE : g_M_tell wd tl iv = (false, (tl + iv), j25_0) := by clear hP hD hl hS; subst ej25_0; unfold g_M_tell; (try dsimp only); rw [if_pos c_32]
      have hP9 : va_P (dC, dI) classes [(bM, .inr (3, [.int cd, .int wd, .ref bT, .ref bF, .int al, .ref bN, .ref bP, .ref bQ, .ref bR, .int sz1, .int un, .int (b2i mo), .int ((g_M_tell wd tl iv).2.1), .int (b2i ((g_M_tell wd tl iv).2.2)), .int tpo, .long fro, .int (b2i ly)]))] H := by rw [hE]; exact hP.sub [0] rfl
      have hD9 : va_D A [(bM, .inr (3, [.int cd, .int wd, .ref bT, .ref bF, .int al, .ref bN, .ref bP, .ref bQ, .ref bR, .int sz1, .int un, .int (b2i mo), .int ((g_M_tell wd tl iv).2.1), .int (b2i ((g_M_tell wd tl iv).2.2)), .int tpo, .long fro, .int (b2i ly)]))] := by rw [hE]; exact hD.sub [0] (by decide) rfl
      exact W.zret (v := 0) hx hb hr (by first | exact nar_b2i _ | rfl) (fun t ht hW => ⟨⟨0, (), rfl, by rw [hE]; rfl, by rw [ht]; exact hP9, hD9⟩, hS.F ht⟩) hS.2.2 d_M_tell_40
    · skip
      have c_32 : ¬ j25_0 = true := b2i_z c_32
      refine lv_iconst (v := 1) hx hb d_M_tell_35 (by decide) ?_
      refine lv_goto (tgt := 40) hx hb d_M_tell_36 (by decide) ?_
      have hE : g_M_tell wd tl iv = (true, (tl + iv), j25_0) := by clear hP hD hl hS; subst ej25_0; unfold g_M_tell; (try dsimp only); rw [if_neg c_32]
      have hP9 : va_P (dC, dI) classes [(bM, .inr (3, [.int cd, .int wd, .ref bT, .ref bF, .int al, .ref bN, .ref bP, .ref bQ, .ref bR, .int sz1, .int un, .int (b2i mo), .int ((g_M_tell wd tl iv).2.1), .int (b2i ((g_M_tell wd tl iv).2.2)), .int tpo, .long fro, .int (b2i ly)]))] H := by rw [hE]; exact hP.sub [0] rfl
      have hD9 : va_D A [(bM, .inr (3, [.int cd, .int wd, .ref bT, .ref bF, .int al, .ref bN, .ref bP, .ref bQ, .ref bR, .int sz1, .int un, .int (b2i mo), .int ((g_M_tell wd tl iv).2.1), .int (b2i ((g_M_tell wd tl iv).2.2)), .int tpo, .long fro, .int (b2i ly)]))] := by rw [hE]; exact hD.sub [0] (by decide) rfl
      exact W.zret (v := 1) hx hb hr (by first | exact nar_b2i _ | rfl) (fun t ht hW => ⟨⟨1, (), rfl, by rw [hE]; rfl, by rw [ht]; exact hP9, hD9⟩, hS.F ht⟩) hS.2.2 d_M_tell_40
  · skip
    refine lv_if_ne (tgt := 24) hx hb d_M_tell_17 (by decide) (fun c_17 => ?_) (fun c_17 => ?_)
    · skip
      refine lv_iconst (v := 0) hx hb d_M_tell_24 (by decide) ?_
      exact J25 (false) H locs ls ⟨by clear hP hD hl hS; (try dsimp only); rw [if_neg c_17], hP.sub [0] rfl, hD.sub [0] (by decide) rfl, hS, lv_sub hl [0, 1] rfl⟩
    · skip
      refine lv_iconst (v := 1) hx hb d_M_tell_20 (by decide) ?_
      refine lv_goto (tgt := 25) hx hb d_M_tell_21 (by decide) ?_
      exact J25 (true) H locs ls ⟨by clear hP hD hl hS; (try dsimp only); rw [if_pos c_17], hP.sub [0] rfl, hD.sub [0] (by decide) rfl, hS, lv_sub hl [0, 1] rfl⟩
theorem d_M_answer_0 : decode b_M_answer 0 = .ok (.aload_n 0, 1) := by decide +kernel
theorem d_M_answer_1 : decode b_M_answer 1 = .ok (.iload_n 1, 1) := by decide +kernel
theorem d_M_answer_2 : decode b_M_answer 2 = .ok (.ifCond .eq 8, 3) := by decide +kernel
theorem d_M_answer_10 : decode b_M_answer 10 = .ok (.iconst 0, 1) := by decide +kernel
theorem d_M_answer_5 : decode b_M_answer 5 = .ok (.ldc 55, 2) := by decide +kernel
theorem d_M_answer_7 : decode b_M_answer 7 = .ok (.goto 4, 3) := by decide +kernel
theorem d_M_answer_11 : decode b_M_answer 11 = .ok (.iload_n 2, 1) := by decide +kernel
theorem d_M_answer_12 : decode b_M_answer 12 = .ok (.iadd, 1) := by decide +kernel
theorem d_M_answer_13 : decode b_M_answer 13 = .ok (.putfield 56, 3) := by decide +kernel
theorem d_M_answer_16 : decode b_M_answer 16 = .ok (.aload_n 0, 1) := by decide +kernel
theorem d_M_answer_17 : decode b_M_answer 17 = .ok (.lload_n 3, 1) := by decide +kernel
theorem d_M_answer_18 : decode b_M_answer 18 = .ok (.putfield 59, 3) := by decide +kernel
theorem d_M_answer_21 : decode b_M_answer 21 = .ok (.return_, 1) := by decide +kernel
set_option maxHeartbeats 4000000 in
set_option maxRecDepth 100000 in
theorem c_M_answer (l : Launch) (dC : Nat → ClassId) (dI : Nat → Nat → Nat) (bM : Nat) (bT : Nat) (bF : Nat) (bN : Nat) (bP : Nat) (bQ : Nat) (bR : Nat) (sz : Nat) (cd : Int32) (wd : Int32) (al : Int32) (sz1 : Int32) (un : Int32) (mo : Bool) (tl : Int32) (sp : Bool) (tpo : Int32) (fro : Int64) (ly : Bool) (bs : Bool) (ip : Int32) (jf : Int64) : Met l y_M_answer w_M_answer ({ frames := 0, cells := 0, slots := 0, locals := 0 }) (cPc (dC, dI) [] [.ref bM, .int (b2i bs), .int ip, .long jf] [(bM, .inr (3, [.int cd, .int wd, .ref bT, .ref bF, .int al, .ref bN, .ref bP, .ref bQ, .ref bR, .int sz1, .int un, .int (b2i mo), .int tl, .int (b2i sp), .int tpo, .long fro, .int (b2i ly)]))] sz) (va_Qv (fun (_ : Unit) => True) (fun _ t => va_P (dC, dI) classes [(bM, .inr (3, [.int cd, .int wd, .ref bT, .ref bF, .int al, .ref bN, .ref bP, .ref bQ, .ref bR, .int sz1, .int un, .int (b2i mo), .int tl, .int (b2i sp), .int (g_M_answer bs ip), .long jf, .int (b2i ly)]))] t.heap ∧ va_D (va_A [(bM, .inr (3, [.int cd, .int wd, .ref bT, .ref bF, .int al, .ref bN, .ref bP, .ref bQ, .ref bR, .int sz1, .int un, .int (b2i mo), .int tl, .int (b2i sp), .int tpo, .long fro, .int (b2i ly)]))] sz) [(bM, .inr (3, [.int cd, .int wd, .ref bT, .ref bF, .int al, .ref bN, .ref bP, .ref bQ, .ref bR, .int sz1, .int un, .int (b2i mo), .int tl, .int (b2i sp), .int (g_M_answer bs ip), .long jf, .int (b2i ly)]))]) (va_A [(bM, .inr (3, [.int cd, .int wd, .ref bT, .ref bF, .int al, .ref bN, .ref bP, .ref bQ, .ref bR, .int sz1, .int un, .int (b2i mo), .int tl, .int (b2i sp), .int tpo, .long fro, .int (b2i ly)]))] sz)) 0 0 (va_A [(bM, .inr (3, [.int cd, .int wd, .ref bT, .ref bF, .int al, .ref bN, .ref bP, .ref bQ, .ref bR, .int sz1, .int un, .int (b2i mo), .int tl, .int (b2i sp), .int tpo, .long fro, .int (b2i ly)]))] sz) := by
  refine Met.ofW (cc := b_M_answer) (maxL := 5) (ret := none) (by decide) rfl ?_
  intro p e s m args below meth c s₁ B hml hv
  obtain ⟨rfl, hsz, hP, hK, hD0, hnw⟩ := hv
  have hx := B.exec
  have hb := B.bytes
  have hr := B.returns
  have hts := atoms_spec (ws := w_M_answer) B.pre
  have htA : ∀ w ∈ wAll, w.before _ s = true := fun w h => hts w (List.mem_cons_of_mem _ h)
  have hown : s.vm.findClass R_M = some m.cls := findClass_of_methodNamed B.named
  have hlocks := B.notSynchronized
  subst hsz
  have hD := hD0.self (sz := s.heap.size)
  generalize hAe : va_A [(bM, .inr (3, [.int cd, .int wd, .ref bT, .ref bF, .int al, .ref bN, .ref bP, .ref bQ, .ref bR, .int sz1, .int un, .int (b2i mo), .int tl, .int (b2i sp), .int tpo, .long fro, .int (b2i ly)]))] s.heap.size = A at hD ⊢
  have hA : ∀ q : Nat, s.heap.size ≤ q → A q := fun q h => by rw [← hAe]; exact Or.inr h
  have hS : va_S A s.heap s.heap [] := va_S.rf
  have hP : va_P (dC, dI) classes [(bM, .inr (3, [.int cd, .int wd, .ref bT, .ref bF, .int al, .ref bN, .ref bP, .ref bQ, .ref bR, .int sz1, .int un, .int (b2i mo), .int tl, .int (b2i sp), .int tpo, .long fro, .int (b2i ly)]))] s.heap := hP
  obtain ⟨H, eH⟩ : ∃ z, z = s.heap := ⟨_, rfl⟩
  rw [← eH] at hP
  have hS : va_S A s.heap H [] := by rw [eH]; exact hS
  rw [← eH]
  generalize ([] : List Loc) = locs at hS ⊢
  have hl := lv_entry ([.ref bM, .int (b2i bs), .int ip, .long jf]) (n := 5) (Nat.le_of_ble_eq_true rfl)
  rw [lg_entry_eq]
  generalize (lg_sl ([.ref bM, .int (b2i bs), .int ip, .long jf]) ++ List.replicate (5 - (lg_sl ([.ref bM, .int (b2i bs), .int ip, .long jf])).length) Slot.unset).toArray = ls at hl ⊢
  have hl : lv_has ls 5 [(0, .ref bM), (1, .int (b2i bs)), (2, .int ip), (3, .long jf)] := hl
  refine lv_aload_n hx hb d_M_answer_0 rfl (lv_at hl 0 rfl) ?_
  refine lv_iload_n hx hb d_M_answer_1 rfl (lv_at hl 1 rfl) ?_
  refine cut_join (X := Int32) 0 0 (fun (x : Int32) (H : Heap) (locs : List Loc) (ls : Array Slot) => (if bs = true then 32768 else 0) = x ∧ va_P (dC, dI) classes [(bM, .inr (3, [.int cd, .int wd, .ref bT, .ref bF, .int al, .ref bN, .ref bP, .ref bQ, .ref bR, .int sz1, .int un, .int (b2i mo), .int tl, .int (b2i sp), .int tpo, .long fro, .int (b2i ly)]))] H ∧ va_D A [(bM, .inr (3, [.int cd, .int wd, .ref bT, .ref bF, .int al, .ref bN, .ref bP, .ref bQ, .ref bR, .int sz1, .int un, .int (b2i mo), .int tl, .int (b2i sp), .int tpo, .long fro, .int (b2i ly)]))] ∧ va_S A s.heap H locs ∧ lv_has ls 5 [(0, .ref bM), (1, .int (b2i bs)), (2, .int ip), (3, .long jf)]) (fun x ls => F0 m 11 ls [.int x, .ref bM]) ?_ (fun J11 => ?_)
  · skip
    rintro j11_0 H locs ls ⟨ej11_0, hP, hD, hS, hl⟩
    have ej11_0 : (if bs = true then 32768 else 0) = j11_0 := ej11_0
    have hP : va_P (dC, dI) classes [(bM, .inr (3, [.int cd, .int wd, .ref bT, .ref bF, .int al, .ref bN, .ref bP, .ref bQ, .ref bR, .int sz1, .int un, .int (b2i mo), .int tl, .int (b2i sp), .int tpo, .long fro, .int (b2i ly)]))] H := hP
    have hD : va_D A [(bM, .inr (3, [.int cd, .int wd, .ref bT, .ref bF, .int al, .ref bN, .ref bP, .ref bQ, .ref bR, .int sz1, .int un, .int (b2i mo), .int tl, .int (b2i sp), .int tpo, .long fro, .int (b2i ly)]))] := hD
    have hl : lv_has ls 5 [(0, .ref bM), (1, .int (b2i bs)), (2, .int ip), (3, .long jf)] := hl
    refine lv_iload_n hx hb d_M_answer_11 rfl (lv_at hl 2 rfl) ?_
    refine lv_iadd hx hb d_M_answer_12 ?_
    refine va_put (D := (dC, dI)) (ci := 3) (v := .int (j11_0 + ip)) (ty := .int) (C := R_M) (T := F_M) (N := 17) hx hb htA in_M t_M t_M_ok n_M hown hK hP hD hS 0 rfl rfl 14 (by decide) (htA _ k_252) (fun _ h9 => h9) rfl (by decide +kernel) rfl rfl (Nat.le_of_ble_eq_true rfl) d_M_answer_13 (fun H locs hP hD hS => ?_)
    have hP : va_P (dC, dI) classes [(bM, .inr (3, [.int cd, .int wd, .ref bT, .ref bF, .int al, .ref bN, .ref bP, .ref bQ, .ref bR, .int sz1, .int un, .int (b2i mo), .int tl, .int (b2i sp), .int (j11_0 + ip), .long fro, .int (b2i ly)]))] H := hP
    have hD : va_D A [(bM, .inr (3, [.int cd, .int wd, .ref bT, .ref bF, .int al, .ref bN, .ref bP, .ref bQ, .ref bR, .int sz1, .int un, .int (b2i mo), .int tl, .int (b2i sp), .int (j11_0 + ip), .long fro, .int (b2i ly)]))] := hD
    refine lv_aload_n hx hb d_M_answer_16 rfl (lv_at hl 0 rfl) ?_
    refine lv_lload_n hx hb d_M_answer_17 rfl (lv_at hl 3 rfl) ?_
    refine va_put (D := (dC, dI)) (ci := 3) (v := .long jf) (ty := .long) (C := R_M) (T := F_M) (N := 17) hx hb htA in_M t_M t_M_ok n_M hown hK hP hD hS 0 rfl rfl 15 (by decide) (htA _ k_253) (fun _ h9 => h9) rfl (by decide +kernel) rfl rfl (Nat.le_of_ble_eq_true rfl) d_M_answer_18 (fun H locs hP hD hS => ?_)
    have hP : va_P (dC, dI) classes [(bM, .inr (3, [.int cd, .int wd, .ref bT, .ref bF, .int al, .ref bN, .ref bP, .ref bQ, .ref bR, .int sz1, .int un, .int (b2i mo), .int tl, .int (b2i sp), .int (j11_0 + ip), .long jf, .int (b2i ly)]))] H := hP
    have hD : va_D A [(bM, .inr (3, [.int cd, .int wd, .ref bT, .ref bF, .int al, .ref bN, .ref bP, .ref bQ, .ref bR, .int sz1, .int un, .int (b2i mo), .int tl, .int (b2i sp), .int (j11_0 + ip), .long jf, .int (b2i ly)]))] := hD
    have hE : g_M_answer bs ip = ((j11_0 + ip)) := by clear hP hD hl hS; subst ej11_0; unfold g_M_answer; rfl
    have hP9 : va_P (dC, dI) classes [(bM, .inr (3, [.int cd, .int wd, .ref bT, .ref bF, .int al, .ref bN, .ref bP, .ref bQ, .ref bR, .int sz1, .int un, .int (b2i mo), .int tl, .int (b2i sp), .int (g_M_answer bs ip), .long jf, .int (b2i ly)]))] H := by rw [hE]; exact hP.sub [0] rfl
    have hD9 : va_D A [(bM, .inr (3, [.int cd, .int wd, .ref bT, .ref bF, .int al, .ref bN, .ref bP, .ref bQ, .ref bR, .int sz1, .int un, .int (b2i mo), .int tl, .int (b2i sp), .int (g_M_answer bs ip), .long jf, .int (b2i ly)]))] := by rw [hE]; exact hD.sub [0] (by decide) rfl
    exact W.vret hx hb hr (fun t ht hW => ⟨⟨(), rfl, trivial, by rw [ht]; exact hP9, hD9⟩, hS.F ht⟩) hS.2.2 d_M_answer_21
  · skip
    refine lv_if_eq (tgt := 10) hx hb d_M_answer_2 (by decide) (fun c_2 => ?_) (fun c_2 => ?_)
    · skip
      have c_2 : ¬ bs = true := b2i_z c_2
      refine lv_iconst (v := 0) hx hb d_M_answer_10 (by decide) ?_
      exact J11 (0) H locs ls ⟨by clear hP hD hl hS; (try dsimp only); rw [if_neg c_2], hP.sub [0] rfl, hD.sub [0] (by decide) rfl, hS, lv_sub hl [0, 1, 2, 3] rfl⟩
    · skip
      have c_2 : bs = true := b2i_nz c_2
      refine lv_ldc (v := 32768) hx hb hown (htA _ k_251) d_M_answer_5 ?_
      refine lv_goto (tgt := 11) hx hb d_M_answer_7 (by decide) ?_
      exact J11 (32768) H locs ls ⟨by clear hP hD hl hS; (try dsimp only); rw [if_pos c_2], hP.sub [0] rfl, hD.sub [0] (by decide) rfl, hS, lv_sub hl [0, 1, 2, 3] rfl⟩
theorem d_M_isNone_0 : decode b_M_isNone 0 = .ok (.aload_n 0, 1) := by decide +kernel
theorem d_M_isNone_1 : decode b_M_isNone 1 = .ok (.getfield 25, 3) := by decide +kernel
theorem d_M_isNone_4 : decode b_M_isNone 4 = .ok (.iload_n 1, 1) := by decide +kernel
theorem d_M_isNone_5 : decode b_M_isNone 5 = .ok (.iaload, 1) := by decide +kernel
theorem d_M_isNone_6 : decode b_M_isNone 6 = .ok (.sipush 32767, 3) := by decide +kernel
theorem d_M_isNone_9 : decode b_M_isNone 9 = .ok (.if_icmp .ne 20, 3) := by decide +kernel
theorem d_M_isNone_29 : decode b_M_isNone 29 = .ok (.iconst 0, 1) := by decide +kernel
theorem d_M_isNone_30 : decode b_M_isNone 30 = .ok (.ireturn, 1) := by decide +kernel
theorem d_M_isNone_12 : decode b_M_isNone 12 = .ok (.aload_n 0, 1) := by decide +kernel
theorem d_M_isNone_13 : decode b_M_isNone 13 = .ok (.getfield 28, 3) := by decide +kernel
theorem d_M_isNone_16 : decode b_M_isNone 16 = .ok (.iload_n 1, 1) := by decide +kernel
theorem d_M_isNone_17 : decode b_M_isNone 17 = .ok (.laload, 1) := by decide +kernel
theorem d_M_isNone_18 : decode b_M_isNone 18 = .ok (.iconst 1, 1) := by decide +kernel
theorem d_M_isNone_19 : decode b_M_isNone 19 = .ok (.lshl, 1) := by decide +kernel
theorem d_M_isNone_20 : decode b_M_isNone 20 = .ok (.lconst 0, 1) := by decide +kernel
theorem d_M_isNone_21 : decode b_M_isNone 21 = .ok (.lcmp, 1) := by decide +kernel
theorem d_M_isNone_22 : decode b_M_isNone 22 = .ok (.ifCond .eq 7, 3) := by decide +kernel
theorem d_M_isNone_25 : decode b_M_isNone 25 = .ok (.iconst 1, 1) := by decide +kernel
theorem d_M_isNone_26 : decode b_M_isNone 26 = .ok (.goto 4, 3) := by decide +kernel
set_option maxHeartbeats 4000000 in
set_option maxRecDepth 100000 in
theorem c_M_isNone (l : Launch) (dC : Nat → ClassId) (dI : Nat → Nat → Nat) (kP : ClassId) (kQ : ClassId) (bM : Nat) (bP : Nat) (bQ : Nat) (bT : Nat) (bF : Nat) (bN : Nat) (bR : Nat) (sz : Nat) (cd : Int32) (wd : Int32) (al : Int32) (sz1 : Int32) (un : Int32) (mo : Bool) (tl : Int32) (sp : Bool) (tpo : Int32) (fro : Int64) (ly : Bool) (pw : Nat → Int32) (pt : Nat → Int64) (ii : Int32) (hi2 : vp_in ii 2) : Met l y_M_isNone w_M_isNone ({ frames := 0, cells := 0, slots := 0, locals := 0 }) (cPc (dC, dI) [(kP, .int), (kQ, .long)] [.ref bM, .int ii] [(bM, .inr (3, [.int cd, .int wd, .ref bT, .ref bF, .int al, .ref bN, .ref bP, .ref bQ, .ref bR, .int sz1, .int un, .int (b2i mo), .int tl, .int (b2i sp), .int tpo, .long fro, .int (b2i ly)])), (bP, .inl (kP, 2, .inl pw)), (bQ, .inl (kQ, 2, .inr (.inl pt)))] sz) (va_Qi (fun (r : Int32) (_ : Unit) => r = b2i ((g_M_isNone pw pt ii))) (fun _ t => va_P (dC, dI) classes [(bM, .inr (3, [.int cd, .int wd, .ref bT, .ref bF, .int al, .ref bN, .ref bP, .ref bQ, .ref bR, .int sz1, .int un, .int (b2i mo), .int tl, .int (b2i sp), .int tpo, .long fro, .int (b2i ly)])), (bP, .inl (kP, 2, .inl pw)), (bQ, .inl (kQ, 2, .inr (.inl pt)))] t.heap ∧ va_D (va_A [(bM, .inr (3, [.int cd, .int wd, .ref bT, .ref bF, .int al, .ref bN, .ref bP, .ref bQ, .ref bR, .int sz1, .int un, .int (b2i mo), .int tl, .int (b2i sp), .int tpo, .long fro, .int (b2i ly)])), (bP, .inl (kP, 2, .inl pw)), (bQ, .inl (kQ, 2, .inr (.inl pt)))] sz) [(bM, .inr (3, [.int cd, .int wd, .ref bT, .ref bF, .int al, .ref bN, .ref bP, .ref bQ, .ref bR, .int sz1, .int un, .int (b2i mo), .int tl, .int (b2i sp), .int tpo, .long fro, .int (b2i ly)])), (bP, .inl (kP, 2, .inl pw)), (bQ, .inl (kQ, 2, .inr (.inl pt)))]) (va_A [(bM, .inr (3, [.int cd, .int wd, .ref bT, .ref bF, .int al, .ref bN, .ref bP, .ref bQ, .ref bR, .int sz1, .int un, .int (b2i mo), .int tl, .int (b2i sp), .int tpo, .long fro, .int (b2i ly)])), (bP, .inl (kP, 2, .inl pw)), (bQ, .inl (kQ, 2, .inr (.inl pt)))] sz)) 0 0 (va_A [(bM, .inr (3, [.int cd, .int wd, .ref bT, .ref bF, .int al, .ref bN, .ref bP, .ref bQ, .ref bR, .int sz1, .int un, .int (b2i mo), .int tl, .int (b2i sp), .int tpo, .long fro, .int (b2i ly)])), (bP, .inl (kP, 2, .inl pw)), (bQ, .inl (kQ, 2, .inr (.inl pt)))] sz) := by
  refine Met.ofW (cc := b_M_isNone) (maxL := 2) (ret := (some .boolean)) (by decide) rfl ?_
  intro p e s m args below meth c s₁ B hml hv
  obtain ⟨rfl, hsz, hP, hK, hD0, hnw⟩ := hv
  have hx := B.exec
  have hb := B.bytes
  have hr := B.returns
  have hts := atoms_spec (ws := w_M_isNone) B.pre
  have htA : ∀ w ∈ wAll, w.before _ s = true := fun w h => hts w (List.mem_cons_of_mem _ h)
  have hown : s.vm.findClass R_M = some m.cls := findClass_of_methodNamed B.named
  have hlocks := B.notSynchronized
  subst hsz
  have hD := hD0.self (sz := s.heap.size)
  generalize hAe : va_A [(bM, .inr (3, [.int cd, .int wd, .ref bT, .ref bF, .int al, .ref bN, .ref bP, .ref bQ, .ref bR, .int sz1, .int un, .int (b2i mo), .int tl, .int (b2i sp), .int tpo, .long fro, .int (b2i ly)])), (bP, .inl (kP, 2, .inl pw)), (bQ, .inl (kQ, 2, .inr (.inl pt)))] s.heap.size = A at hD ⊢
  have hA : ∀ q : Nat, s.heap.size ≤ q → A q := fun q h => by rw [← hAe]; exact Or.inr h
  have hS : va_S A s.heap s.heap [] := va_S.rf
  have hP : va_P (dC, dI) classes [(bM, .inr (3, [.int cd, .int wd, .ref bT, .ref bF, .int al, .ref bN, .ref bP, .ref bQ, .ref bR, .int sz1, .int un, .int (b2i mo), .int tl, .int (b2i sp), .int tpo, .long fro, .int (b2i ly)])), (bP, .inl (kP, 2, .inl pw)), (bQ, .inl (kQ, 2, .inr (.inl pt)))] s.heap := hP
  obtain ⟨H, eH⟩ : ∃ z, z = s.heap := ⟨_, rfl⟩
  rw [← eH] at hP
  have hS : va_S A s.heap H [] := by rw [eH]; exact hS
  rw [← eH]
  generalize ([] : List Loc) = locs at hS ⊢
  have hl := lv_entry ([.ref bM, .int ii]) (n := 2) (Nat.le_of_ble_eq_true rfl)
  rw [lg_entry_eq]
  generalize (lg_sl ([.ref bM, .int ii]) ++ List.replicate (2 - (lg_sl ([.ref bM, .int ii])).length) Slot.unset).toArray = ls at hl ⊢
  have hl : lv_has ls 2 [(0, .ref bM), (1, .int ii)] := hl
  refine lv_aload_n hx hb d_M_isNone_0 rfl (lv_at hl 0 rfl) ?_
  refine va_get (D := (dC, dI)) (ci := 3) (v := .ref bP) (C := R_M) (T := F_M) (N := 17) hx hb htA in_M hown hK hP 0 rfl rfl 6 (by decide) (htA _ k_255) (fun _ h9 => h9) rfl d_M_isNone_1 ?_
  refine lv_iload_n hx hb d_M_isNone_4 rfl (lv_at hl 1 rfl) ?_
  refine va_iald hx hb hK hP 1 0 rfl rfl hi2 d_M_isNone_5 ?_
  refine lv_sipush (v := 32767) hx hb d_M_isNone_6 (by decide) ?_
  refine lv_icmp_ne (tgt := 29) hx hb d_M_isNone_9 (by decide) (fun c_9 => ?_) (fun c_9 => ?_)
  · skip
    refine lv_iconst (v := 0) hx hb d_M_isNone_29 (by decide) ?_
    have hE : g_M_isNone pw pt ii = (false) := by clear hP hD hl hS; unfold g_M_isNone; (try dsimp only); rw [if_neg c_9]
    have hP9 : va_P (dC, dI) classes [(bM, .inr (3, [.int cd, .int wd, .ref bT, .ref bF, .int al, .ref bN, .ref bP, .ref bQ, .ref bR, .int sz1, .int un, .int (b2i mo), .int tl, .int (b2i sp), .int tpo, .long fro, .int (b2i ly)])), (bP, .inl (kP, 2, .inl pw)), (bQ, .inl (kQ, 2, .inr (.inl pt)))] H := by exact hP.sub [0, 1, 2] rfl
    have hD9 : va_D A [(bM, .inr (3, [.int cd, .int wd, .ref bT, .ref bF, .int al, .ref bN, .ref bP, .ref bQ, .ref bR, .int sz1, .int un, .int (b2i mo), .int tl, .int (b2i sp), .int tpo, .long fro, .int (b2i ly)])), (bP, .inl (kP, 2, .inl pw)), (bQ, .inl (kQ, 2, .inr (.inl pt)))] := by exact hD.sub [0, 1, 2] (by decide) rfl
    exact W.zret (v := 0) hx hb hr (by first | exact nar_b2i _ | rfl) (fun t ht hW => ⟨⟨0, (), rfl, by rw [hE]; rfl, by rw [ht]; exact hP9, hD9⟩, hS.F ht⟩) hS.2.2 d_M_isNone_30
  · skip
    refine lv_aload_n hx hb d_M_isNone_12 rfl (lv_at hl 0 rfl) ?_
    refine va_get (D := (dC, dI)) (ci := 3) (v := .ref bQ) (C := R_M) (T := F_M) (N := 17) hx hb htA in_M hown hK hP 0 rfl rfl 7 (by decide) (htA _ k_256) (fun _ h9 => h9) rfl d_M_isNone_13 ?_
    refine lv_iload_n hx hb d_M_isNone_16 rfl (lv_at hl 1 rfl) ?_
    refine va_lald hx hb hK hP 2 1 rfl rfl hi2 d_M_isNone_17 ?_
    refine lv_iconst (v := 1) hx hb d_M_isNone_18 (by decide) ?_
    refine lv_lshl (v := (sL (pt ii.toNatClampNeg) 1)) hx hb d_M_isNone_19 rfl ?_
    refine lv_lconst (v := 0) hx hb d_M_isNone_20 (by decide) ?_
    refine W.lcmp hx hb d_M_isNone_21 ?_
    refine lv_if_eq (tgt := 29) hx hb d_M_isNone_22 (by decide) (fun c_22 => ?_) (fun c_22 => ?_)
    · skip
      have c_22 : (sL (pt ii.toNatClampNeg) 1) = 0 := (lg_cmp_eq _ _).mp c_22
      refine lv_iconst (v := 0) hx hb d_M_isNone_29 (by decide) ?_
      have hE : g_M_isNone pw pt ii = (false) := by clear hP hD hl hS; unfold g_M_isNone; (try dsimp only); rw [if_pos c_9, if_pos c_22]
      have hP9 : va_P (dC, dI) classes [(bM, .inr (3, [.int cd, .int wd, .ref bT, .ref bF, .int al, .ref bN, .ref bP, .ref bQ, .ref bR, .int sz1, .int un, .int (b2i mo), .int tl, .int (b2i sp), .int tpo, .long fro, .int (b2i ly)])), (bP, .inl (kP, 2, .inl pw)), (bQ, .inl (kQ, 2, .inr (.inl pt)))] H := by exact hP.sub [0, 1, 2] rfl
      have hD9 : va_D A [(bM, .inr (3, [.int cd, .int wd, .ref bT, .ref bF, .int al, .ref bN, .ref bP, .ref bQ, .ref bR, .int sz1, .int un, .int (b2i mo), .int tl, .int (b2i sp), .int tpo, .long fro, .int (b2i ly)])), (bP, .inl (kP, 2, .inl pw)), (bQ, .inl (kQ, 2, .inr (.inl pt)))] := by exact hD.sub [0, 1, 2] (by decide) rfl
      exact W.zret (v := 0) hx hb hr (by first | exact nar_b2i _ | rfl) (fun t ht hW => ⟨⟨0, (), rfl, by rw [hE]; rfl, by rw [ht]; exact hP9, hD9⟩, hS.F ht⟩) hS.2.2 d_M_isNone_30
    · skip
      have c_22 : ¬ (sL (pt ii.toNatClampNeg) 1) = 0 := fun h9 => c_22 ((lg_cmp_eq _ _).mpr h9)
      refine lv_iconst (v := 1) hx hb d_M_isNone_25 (by decide) ?_
      refine lv_goto (tgt := 30) hx hb d_M_isNone_26 (by decide) ?_
      have hE : g_M_isNone pw pt ii = (true) := by clear hP hD hl hS; unfold g_M_isNone; (try dsimp only); rw [if_pos c_9, if_neg c_22]
      have hP9 : va_P (dC, dI) classes [(bM, .inr (3, [.int cd, .int wd, .ref bT, .ref bF, .int al, .ref bN, .ref bP, .ref bQ, .ref bR, .int sz1, .int un, .int (b2i mo), .int tl, .int (b2i sp), .int tpo, .long fro, .int (b2i ly)])), (bP, .inl (kP, 2, .inl pw)), (bQ, .inl (kQ, 2, .inr (.inl pt)))] H := by exact hP.sub [0, 1, 2] rfl
      have hD9 : va_D A [(bM, .inr (3, [.int cd, .int wd, .ref bT, .ref bF, .int al, .ref bN, .ref bP, .ref bQ, .ref bR, .int sz1, .int un, .int (b2i mo), .int tl, .int (b2i sp), .int tpo, .long fro, .int (b2i ly)])), (bP, .inl (kP, 2, .inl pw)), (bQ, .inl (kQ, 2, .inr (.inl pt)))] := by exact hD.sub [0, 1, 2] (by decide) rfl
      exact W.zret (v := 1) hx hb hr (by first | exact nar_b2i _ | rfl) (fun t ht hW => ⟨⟨1, (), rfl, by rw [hE]; rfl, by rw [ht]; exact hP9, hD9⟩, hS.F ht⟩) hS.2.2 d_M_isNone_30
theorem d_M_isEndless_0 : decode b_M_isEndless 0 = .ok (.aload_n 0, 1) := by decide +kernel
theorem d_M_isEndless_1 : decode b_M_isEndless 1 = .ok (.getfield 25, 3) := by decide +kernel
theorem d_M_isEndless_4 : decode b_M_isEndless 4 = .ok (.iload_n 1, 1) := by decide +kernel
theorem d_M_isEndless_5 : decode b_M_isEndless 5 = .ok (.iaload, 1) := by decide +kernel
theorem d_M_isEndless_6 : decode b_M_isEndless 6 = .ok (.sipush 32767, 3) := by decide +kernel
theorem d_M_isEndless_9 : decode b_M_isEndless 9 = .ok (.if_icmp .ne 20, 3) := by decide +kernel
theorem d_M_isEndless_29 : decode b_M_isEndless 29 = .ok (.iconst 0, 1) := by decide +kernel
theorem d_M_isEndless_30 : decode b_M_isEndless 30 = .ok (.ireturn, 1) := by decide +kernel
theorem d_M_isEndless_12 : decode b_M_isEndless 12 = .ok (.aload_n 0, 1) := by decide +kernel
theorem d_M_isEndless_13 : decode b_M_isEndless 13 = .ok (.getfield 28, 3) := by decide +kernel
theorem d_M_isEndless_16 : decode b_M_isEndless 16 = .ok (.iload_n 1, 1) := by decide +kernel
theorem d_M_isEndless_17 : decode b_M_isEndless 17 = .ok (.laload, 1) := by decide +kernel
theorem d_M_isEndless_18 : decode b_M_isEndless 18 = .ok (.iconst 1, 1) := by decide +kernel
theorem d_M_isEndless_19 : decode b_M_isEndless 19 = .ok (.lshl, 1) := by decide +kernel
theorem d_M_isEndless_20 : decode b_M_isEndless 20 = .ok (.lconst 0, 1) := by decide +kernel
theorem d_M_isEndless_21 : decode b_M_isEndless 21 = .ok (.lcmp, 1) := by decide +kernel
theorem d_M_isEndless_22 : decode b_M_isEndless 22 = .ok (.ifCond .ne 7, 3) := by decide +kernel
theorem d_M_isEndless_25 : decode b_M_isEndless 25 = .ok (.iconst 1, 1) := by decide +kernel
theorem d_M_isEndless_26 : decode b_M_isEndless 26 = .ok (.goto 4, 3) := by decide +kernel
set_option maxHeartbeats 4000000 in
set_option maxRecDepth 100000 in
theorem c_M_isEndless (l : Launch) (dC : Nat → ClassId) (dI : Nat → Nat → Nat) (kP : ClassId) (kQ : ClassId) (bM : Nat) (bP : Nat) (bQ : Nat) (bT : Nat) (bF : Nat) (bN : Nat) (bR : Nat) (sz : Nat) (cd : Int32) (wd : Int32) (al : Int32) (sz1 : Int32) (un : Int32) (mo : Bool) (tl : Int32) (sp : Bool) (tpo : Int32) (fro : Int64) (ly : Bool) (pw : Nat → Int32) (pt : Nat → Int64) (ii : Int32) (hi2 : vp_in ii 2) : Met l y_M_isEndless w_M_isEndless ({ frames := 0, cells := 0, slots := 0, locals := 0 }) (cPc (dC, dI) [(kP, .int), (kQ, .long)] [.ref bM, .int ii] [(bM, .inr (3, [.int cd, .int wd, .ref bT, .ref bF, .int al, .ref bN, .ref bP, .ref bQ, .ref bR, .int sz1, .int un, .int (b2i mo), .int tl, .int (b2i sp), .int tpo, .long fro, .int (b2i ly)])), (bP, .inl (kP, 2, .inl pw)), (bQ, .inl (kQ, 2, .inr (.inl pt)))] sz) (va_Qi (fun (r : Int32) (_ : Unit) => r = b2i ((g_M_isEndless pw pt ii))) (fun _ t => va_P (dC, dI) classes [(bM, .inr (3, [.int cd, .int wd, .ref bT, .ref bF, .int al, .ref bN, .ref bP, .ref bQ, .ref bR, .int sz1, .int un, .int (b2i mo), .int tl, .int (b2i sp), .int tpo, .long fro, .int (b2i ly)])), (bP, .inl (kP, 2, .inl pw)), (bQ, .inl (kQ, 2, .inr (.inl pt)))] t.heap ∧ va_D (va_A [(bM, .inr (3, [.int cd, .int wd, .ref bT, .ref bF, .int al, .ref bN, .ref bP, .ref bQ, .ref bR, .int sz1, .int un, .int (b2i mo), .int tl, .int (b2i sp), .int tpo, .long fro, .int (b2i ly)])), (bP, .inl (kP, 2, .inl pw)), (bQ, .inl (kQ, 2, .inr (.inl pt)))] sz) [(bM, .inr (3, [.int cd, .int wd, .ref bT, .ref bF, .int al, .ref bN, .ref bP, .ref bQ, .ref bR, .int sz1, .int un, .int (b2i mo), .int tl, .int (b2i sp), .int tpo, .long fro, .int (b2i ly)])), (bP, .inl (kP, 2, .inl pw)), (bQ, .inl (kQ, 2, .inr (.inl pt)))]) (va_A [(bM, .inr (3, [.int cd, .int wd, .ref bT, .ref bF, .int al, .ref bN, .ref bP, .ref bQ, .ref bR, .int sz1, .int un, .int (b2i mo), .int tl, .int (b2i sp), .int tpo, .long fro, .int (b2i ly)])), (bP, .inl (kP, 2, .inl pw)), (bQ, .inl (kQ, 2, .inr (.inl pt)))] sz)) 0 0 (va_A [(bM, .inr (3, [.int cd, .int wd, .ref bT, .ref bF, .int al, .ref bN, .ref bP, .ref bQ, .ref bR, .int sz1, .int un, .int (b2i mo), .int tl, .int (b2i sp), .int tpo, .long fro, .int (b2i ly)])), (bP, .inl (kP, 2, .inl pw)), (bQ, .inl (kQ, 2, .inr (.inl pt)))] sz) := by
  refine Met.ofW (cc := b_M_isEndless) (maxL := 2) (ret := (some .boolean)) (by decide) rfl ?_
  intro p e s m args below meth c s₁ B hml hv
  obtain ⟨rfl, hsz, hP, hK, hD0, hnw⟩ := hv
  have hx := B.exec
  have hb := B.bytes
  have hr := B.returns
  have hts := atoms_spec (ws := w_M_isEndless) B.pre
  have htA : ∀ w ∈ wAll, w.before _ s = true := fun w h => hts w (List.mem_cons_of_mem _ h)
  have hown : s.vm.findClass R_M = some m.cls := findClass_of_methodNamed B.named
  have hlocks := B.notSynchronized
  subst hsz
  have hD := hD0.self (sz := s.heap.size)
  generalize hAe : va_A [(bM, .inr (3, [.int cd, .int wd, .ref bT, .ref bF, .int al, .ref bN, .ref bP, .ref bQ, .ref bR, .int sz1, .int un, .int (b2i mo), .int tl, .int (b2i sp), .int tpo, .long fro, .int (b2i ly)])), (bP, .inl (kP, 2, .inl pw)), (bQ, .inl (kQ, 2, .inr (.inl pt)))] s.heap.size = A at hD ⊢
  have hA : ∀ q : Nat, s.heap.size ≤ q → A q := fun q h => by rw [← hAe]; exact Or.inr h
  have hS : va_S A s.heap s.heap [] := va_S.rf
  have hP : va_P (dC, dI) classes [(bM, .inr (3, [.int cd, .int wd, .ref bT, .ref bF, .int al, .ref bN, .ref bP, .ref bQ, .ref bR, .int sz1, .int un, .int (b2i mo), .int tl, .int (b2i sp), .int tpo, .long fro, .int (b2i ly)])), (bP, .inl (kP, 2, .inl pw)), (bQ, .inl (kQ, 2, .inr (.inl pt)))] s.heap := hP
  obtain ⟨H, eH⟩ : ∃ z, z = s.heap := ⟨_, rfl⟩
  rw [← eH] at hP
  have hS : va_S A s.heap H [] := by rw [eH]; exact hS
  rw [← eH]
  generalize ([] : List Loc) = locs at hS ⊢
  have hl := lv_entry ([.ref bM, .int ii]) (n := 2) (Nat.le_of_ble_eq_true rfl)
  rw [lg_entry_eq]
  generalize (lg_sl ([.ref bM, .int ii]) ++ List.replicate (2 - (lg_sl ([.ref bM, .int ii])).length) Slot.unset).toArray = ls at hl ⊢
  have hl : lv_has ls 2 [(0, .ref bM), (1, .int ii)] := hl
  refine lv_aload_n hx hb d_M_isEndless_0 rfl (lv_at hl 0 rfl) ?_
  refine va_get (D := (dC, dI)) (ci := 3) (v := .ref bP) (C := R_M) (T := F_M) (N := 17) hx hb htA in_M hown hK hP 0 rfl rfl 6 (by decide) (htA _ k_255) (fun _ h9 => h9) rfl d_M_isEndless_1 ?_
  refine lv_iload_n hx hb d_M_isEndless_4 rfl (lv_at hl 1 rfl) ?_
  refine va_iald hx hb hK hP 1 0 rfl rfl hi2 d_M_isEndless_5 ?_
  refine lv_sipush (v := 32767) hx hb d_M_isEndless_6 (by decide) ?_
  refine lv_icmp_ne (tgt := 29) hx hb d_M_isEndless_9 (by decide) (fun c_9 => ?_) (fun c_9 => ?_)
  · skip
    refine lv_iconst (v := 0) hx hb d_M_isEndless_29 (by decide) ?_
    have hE : g_M_isEndless pw pt ii = (false) := by clear hP hD hl hS; unfold g_M_isEndless; (try dsimp only); rw [if_neg c_9]
    have hP9 : va_P (dC, dI) classes [(bM, .inr (3, [.int cd, .int wd, .ref bT, .ref bF, .int al, .ref bN, .ref bP, .ref bQ, .ref bR, .int sz1, .int un, .int (b2i mo), .int tl, .int (b2i sp), .int tpo, .long fro, .int (b2i ly)])), (bP, .inl (kP, 2, .inl pw)), (bQ, .inl (kQ, 2, .inr (.inl pt)))] H := by exact hP.sub [0, 1, 2] rfl
    have hD9 : va_D A [(bM, .inr (3, [.int cd, .int wd, .ref bT, .ref bF, .int al, .ref bN, .ref bP, .ref bQ, .ref bR, .int sz1, .int un, .int (b2i mo), .int tl, .int (b2i sp), .int tpo, .long fro, .int (b2i ly)])), (bP, .inl (kP, 2, .inl pw)), (bQ, .inl (kQ, 2, .inr (.inl pt)))] := by exact hD.sub [0, 1, 2] (by decide) rfl
    exact W.zret (v := 0) hx hb hr (by first | exact nar_b2i _ | rfl) (fun t ht hW => ⟨⟨0, (), rfl, by rw [hE]; rfl, by rw [ht]; exact hP9, hD9⟩, hS.F ht⟩) hS.2.2 d_M_isEndless_30
  · skip
    refine lv_aload_n hx hb d_M_isEndless_12 rfl (lv_at hl 0 rfl) ?_
    refine va_get (D := (dC, dI)) (ci := 3) (v := .ref bQ) (C := R_M) (T := F_M) (N := 17) hx hb htA in_M hown hK hP 0 rfl rfl 7 (by decide) (htA _ k_256) (fun _ h9 => h9) rfl d_M_isEndless_13 ?_
    refine lv_iload_n hx hb d_M_isEndless_16 rfl (lv_at hl 1 rfl) ?_
    refine va_lald hx hb hK hP 2 1 rfl rfl hi2 d_M_isEndless_17 ?_
    refine lv_iconst (v := 1) hx hb d_M_isEndless_18 (by decide) ?_
    refine lv_lshl (v := (sL (pt ii.toNatClampNeg) 1)) hx hb d_M_isEndless_19 rfl ?_
    refine lv_lconst (v := 0) hx hb d_M_isEndless_20 (by decide) ?_
    refine W.lcmp hx hb d_M_isEndless_21 ?_
    refine lv_if_ne (tgt := 29) hx hb d_M_isEndless_22 (by decide) (fun c_22 => ?_) (fun c_22 => ?_)
    · skip
      have c_22 : ¬ (sL (pt ii.toNatClampNeg) 1) = 0 := fun h9 => c_22 ((lg_cmp_eq _ _).mpr h9)
      refine lv_iconst (v := 0) hx hb d_M_isEndless_29 (by decide) ?_
      have hE : g_M_isEndless pw pt ii = (false) := by clear hP hD hl hS; unfold g_M_isEndless; (try dsimp only); rw [if_pos c_9, if_neg c_22]
      have hP9 : va_P (dC, dI) classes [(bM, .inr (3, [.int cd, .int wd, .ref bT, .ref bF, .int al, .ref bN, .ref bP, .ref bQ, .ref bR, .int sz1, .int un, .int (b2i mo), .int tl, .int (b2i sp), .int tpo, .long fro, .int (b2i ly)])), (bP, .inl (kP, 2, .inl pw)), (bQ, .inl (kQ, 2, .inr (.inl pt)))] H := by exact hP.sub [0, 1, 2] rfl
      have hD9 : va_D A [(bM, .inr (3, [.int cd, .int wd, .ref bT, .ref bF, .int al, .ref bN, .ref bP, .ref bQ, .ref bR, .int sz1, .int un, .int (b2i mo), .int tl, .int (b2i sp), .int tpo, .long fro, .int (b2i ly)])), (bP, .inl (kP, 2, .inl pw)), (bQ, .inl (kQ, 2, .inr (.inl pt)))] := by exact hD.sub [0, 1, 2] (by decide) rfl
      exact W.zret (v := 0) hx hb hr (by first | exact nar_b2i _ | rfl) (fun t ht hW => ⟨⟨0, (), rfl, by rw [hE]; rfl, by rw [ht]; exact hP9, hD9⟩, hS.F ht⟩) hS.2.2 d_M_isEndless_30
    · skip
      have c_22 : (sL (pt ii.toNatClampNeg) 1) = 0 := (lg_cmp_eq _ _).mp c_22
      refine lv_iconst (v := 1) hx hb d_M_isEndless_25 (by decide) ?_
      refine lv_goto (tgt := 30) hx hb d_M_isEndless_26 (by decide) ?_
      have hE : g_M_isEndless pw pt ii = (true) := by clear hP hD hl hS; unfold g_M_isEndless; (try dsimp only); rw [if_pos c_9, if_pos c_22]
      have hP9 : va_P (dC, dI) classes [(bM, .inr (3, [.int cd, .int wd, .ref bT, .ref bF, .int al, .ref bN, .ref bP, .ref bQ, .ref bR, .int sz1, .int un, .int (b2i mo), .int tl, .int (b2i sp), .int tpo, .long fro, .int (b2i ly)])), (bP, .inl (kP, 2, .inl pw)), (bQ, .inl (kQ, 2, .inr (.inl pt)))] H := by exact hP.sub [0, 1, 2] rfl
      have hD9 : va_D A [(bM, .inr (3, [.int cd, .int wd, .ref bT, .ref bF, .int al, .ref bN, .ref bP, .ref bQ, .ref bR, .int sz1, .int un, .int (b2i mo), .int tl, .int (b2i sp), .int tpo, .long fro, .int (b2i ly)])), (bP, .inl (kP, 2, .inl pw)), (bQ, .inl (kQ, 2, .inr (.inl pt)))] := by exact hD.sub [0, 1, 2] (by decide) rfl
      exact W.zret (v := 1) hx hb hr (by first | exact nar_b2i _ | rfl) (fun t ht hW => ⟨⟨1, (), rfl, by rw [hE]; rfl, by rw [ht]; exact hP9, hD9⟩, hS.F ht⟩) hS.2.2 d_M_isEndless_30
theorem d_M_isNothing_0 : decode b_M_isNothing 0 = .ok (.aload_n 0, 1) := by decide +kernel
theorem d_M_isNothing_1 : decode b_M_isNothing 1 = .ok (.getfield 25, 3) := by decide +kernel
theorem d_M_isNothing_4 : decode b_M_isNothing 4 = .ok (.iload_n 1, 1) := by decide +kernel
theorem d_M_isNothing_5 : decode b_M_isNothing 5 = .ok (.iaload, 1) := by decide +kernel
theorem d_M_isNothing_6 : decode b_M_isNothing 6 = .ok (.sipush 32767, 3) := by decide +kernel
theorem d_M_isNothing_9 : decode b_M_isNothing 9 = .ok (.if_icmp .ge 18, 3) := by decide +kernel
theorem d_M_isNothing_27 : decode b_M_isNothing 27 = .ok (.iconst 0, 1) := by decide +kernel
theorem d_M_isNothing_28 : decode b_M_isNothing 28 = .ok (.ireturn, 1) := by decide +kernel
theorem d_M_isNothing_12 : decode b_M_isNothing 12 = .ok (.aload_n 0, 1) := by decide +kernel
theorem d_M_isNothing_13 : decode b_M_isNothing 13 = .ok (.getfield 28, 3) := by decide +kernel
theorem d_M_isNothing_16 : decode b_M_isNothing 16 = .ok (.iload_n 1, 1) := by decide +kernel
theorem d_M_isNothing_17 : decode b_M_isNothing 17 = .ok (.laload, 1) := by decide +kernel
theorem d_M_isNothing_18 : decode b_M_isNothing 18 = .ok (.lconst 0, 1) := by decide +kernel
theorem d_M_isNothing_19 : decode b_M_isNothing 19 = .ok (.lcmp, 1) := by decide +kernel
theorem d_M_isNothing_20 : decode b_M_isNothing 20 = .ok (.ifCond .ne 7, 3) := by decide +kernel
theorem d_M_isNothing_23 : decode b_M_isNothing 23 = .ok (.iconst 1, 1) := by decide +kernel
theorem d_M_isNothing_24 : decode b_M_isNothing 24 = .ok (.goto 4, 3) := by decide +kernel
set_option maxHeartbeats 4000000 in
set_option maxRecDepth 100000 in
theorem c_M_isNothing (l : Launch) (dC : Nat → ClassId) (dI : Nat → Nat → Nat) (kP : ClassId) (kQ : ClassId) (bM : Nat) (bP : Nat) (bQ : Nat) (bT : Nat) (bF : Nat) (bN : Nat) (bR : Nat) (sz : Nat) (cd : Int32) (wd : Int32) (al : Int32) (sz1 : Int32) (un : Int32) (mo : Bool) (tl : Int32) (sp : Bool) (tpo : Int32) (fro : Int64) (ly : Bool) (pw : Nat → Int32) (pt : Nat → Int64) (ii : Int32) (hi2 : vp_in ii 2) : Met l y_M_isNothing w_M_isNothing ({ frames := 0, cells := 0, slots := 0, locals := 0 }) (cPc (dC, dI) [(kP, .int), (kQ, .long)] [.ref bM, .int ii] [(bM, .inr (3, [.int cd, .int wd, .ref bT, .ref bF, .int al, .ref bN, .ref bP, .ref bQ, .ref bR, .int sz1, .int un, .int (b2i mo), .int tl, .int (b2i sp), .int tpo, .long fro, .int (b2i ly)])), (bP, .inl (kP, 2, .inl pw)), (bQ, .inl (kQ, 2, .inr (.inl pt)))] sz) (va_Qi (fun (r : Int32) (_ : Unit) => r = b2i ((g_M_isNothing pw pt ii))) (fun _ t => va_P (dC, dI) classes [(bM, .inr (3, [.int cd, .int wd, .ref bT, .ref bF, .int al, .ref bN, .ref bP, .ref bQ, .ref bR, .int sz1, .int un, .int (b2i mo), .int tl, .int (b2i sp), .int tpo, .long fro, .int (b2i ly)])), (bP, .inl (kP, 2, .inl pw)), (bQ, .inl (kQ, 2, .inr (.inl pt)))] t.heap ∧ va_D (va_A [(bM, .inr (3, [.int cd, .int wd, .ref bT, .ref bF, .int al, .ref bN, .ref bP, .ref bQ, .ref bR, .int sz1, .int un, .int (b2i mo), .int tl, .int (b2i sp), .int tpo, .long fro, .int (b2i ly)])), (bP, .inl (kP, 2, .inl pw)), (bQ, .inl (kQ, 2, .inr (.inl pt)))] sz) [(bM, .inr (3, [.int cd, .int wd, .ref bT, .ref bF, .int al, .ref bN, .ref bP, .ref bQ, .ref bR, .int sz1, .int un, .int (b2i mo), .int tl, .int (b2i sp), .int tpo, .long fro, .int (b2i ly)])), (bP, .inl (kP, 2, .inl pw)), (bQ, .inl (kQ, 2, .inr (.inl pt)))]) (va_A [(bM, .inr (3, [.int cd, .int wd, .ref bT, .ref bF, .int al, .ref bN, .ref bP, .ref bQ, .ref bR, .int sz1, .int un, .int (b2i mo), .int tl, .int (b2i sp), .int tpo, .long fro, .int (b2i ly)])), (bP, .inl (kP, 2, .inl pw)), (bQ, .inl (kQ, 2, .inr (.inl pt)))] sz)) 0 0 (va_A [(bM, .inr (3, [.int cd, .int wd, .ref bT, .ref bF, .int al, .ref bN, .ref bP, .ref bQ, .ref bR, .int sz1, .int un, .int (b2i mo), .int tl, .int (b2i sp), .int tpo, .long fro, .int (b2i ly)])), (bP, .inl (kP, 2, .inl pw)), (bQ, .inl (kQ, 2, .inr (.inl pt)))] sz) := by
  refine Met.ofW (cc := b_M_isNothing) (maxL := 2) (ret := (some .boolean)) (by decide) rfl ?_
  intro p e s m args below meth c s₁ B hml hv
  obtain ⟨rfl, hsz, hP, hK, hD0, hnw⟩ := hv
  have hx := B.exec
  have hb := B.bytes
  have hr := B.returns
  have hts := atoms_spec (ws := w_M_isNothing) B.pre
  have htA : ∀ w ∈ wAll, w.before _ s = true := fun w h => hts w (List.mem_cons_of_mem _ h)
  have hown : s.vm.findClass R_M = some m.cls := findClass_of_methodNamed B.named
  have hlocks := B.notSynchronized
  subst hsz
  have hD := hD0.self (sz := s.heap.size)
  generalize hAe : va_A [(bM, .inr (3, [.int cd, .int wd, .ref bT, .ref bF, .int al, .ref bN, .ref bP, .ref bQ, .ref bR, .int sz1, .int un, .int (b2i mo), .int tl, .int (b2i sp), .int tpo, .long fro, .int (b2i ly)])), (bP, .inl (kP, 2, .inl pw)), (bQ, .inl (kQ, 2, .inr (.inl pt)))] s.heap.size = A at hD ⊢
  have hA : ∀ q : Nat, s.heap.size ≤ q → A q := fun q h => by rw [← hAe]; exact Or.inr h
  have hS : va_S A s.heap s.heap [] := va_S.rf
  have hP : va_P (dC, dI) classes [(bM, .inr (3, [.int cd, .int wd, .ref bT, .ref bF, .int al, .ref bN, .ref bP, .ref bQ, .ref bR, .int sz1, .int un, .int (b2i mo), .int tl, .int (b2i sp), .int tpo, .long fro, .int (b2i ly)])), (bP, .inl (kP, 2, .inl pw)), (bQ, .inl (kQ, 2, .inr (.inl pt)))] s.heap := hP
  obtain ⟨H, eH⟩ : ∃ z, z = s.heap := ⟨_, rfl⟩
  rw [← eH] at hP
  have hS : va_S A s.heap H [] := by rw [eH]; exact hS
  rw [← eH]
  generalize ([] : List Loc) = locs at hS ⊢
  have hl := lv_entry ([.ref bM, .int ii]) (n := 2) (Nat.le_of_ble_eq_true rfl)
  rw [lg_entry_eq]
  generalize (lg_sl ([.ref bM, .int ii]) ++ List.replicate (2 - (lg_sl ([.ref bM, .int ii])).length) Slot.unset).toArray = ls at hl ⊢
  have hl : lv_has ls 2 [(0, .ref bM), (1, .int ii)] := hl
  refine lv_aload_n hx hb d_M_isNothing_0 rfl (lv_at hl 0 rfl) ?_
  refine va_get (D := (dC, dI)) (ci := 3) (v := .ref bP) (C := R_M) (T := F_M) (N := 17) hx hb htA in_M hown hK hP 0 rfl rfl 6 (by decide) (htA _ k_255) (fun _ h9 => h9) rfl d_M_isNothing_1 ?_
  refine lv_iload_n hx hb d_M_isNothing_4 rfl (lv_at hl 1 rfl) ?_
  refine va_iald hx hb hK hP 1 0 rfl rfl hi2 d_M_isNothing_5 ?_
  refine lv_sipush (v := 32767) hx hb d_M_isNothing_6 (by decide) ?_
  refine lv_icmp_ge (tgt := 27) hx hb d_M_isNothing_9 (by decide) (fun c_9 => ?_) (fun c_9 => ?_)
  · skip
    refine lv_iconst (v := 0) hx hb d_M_isNothing_27 (by decide) ?_
    have hE : g_M_isNothing pw pt ii = (false) := by clear hP hD hl hS; unfold g_M_isNothing; (try dsimp only); rw [if_pos c_9]
    have hP9 : va_P (dC, dI) classes [(bM, .inr (3, [.int cd, .int wd, .ref bT, .ref bF, .int al, .ref bN, .ref bP, .ref bQ, .ref bR, .int sz1, .int un, .int (b2i mo), .int tl, .int (b2i sp), .int tpo, .long fro, .int (b2i ly)])), (bP, .inl (kP, 2, .inl pw)), (bQ, .inl (kQ, 2, .inr (.inl pt)))] H := by exact hP.sub [0, 1, 2] rfl
    have hD9 : va_D A [(bM, .inr (3, [.int cd, .int wd, .ref bT, .ref bF, .int al, .ref bN, .ref bP, .ref bQ, .ref bR, .int sz1, .int un, .int (b2i mo), .int tl, .int (b2i sp), .int tpo, .long fro, .int (b2i ly)])), (bP, .inl (kP, 2, .inl pw)), (bQ, .inl (kQ, 2, .inr (.inl pt)))] := by exact hD.sub [0, 1, 2] (by decide) rfl
    exact W.zret (v := 0) hx hb hr (by first | exact nar_b2i _ | rfl) (fun t ht hW => ⟨⟨0, (), rfl, by rw [hE]; rfl, by rw [ht]; exact hP9, hD9⟩, hS.F ht⟩) hS.2.2 d_M_isNothing_28
  · skip
    refine lv_aload_n hx hb d_M_isNothing_12 rfl (lv_at hl 0 rfl) ?_
    refine va_get (D := (dC, dI)) (ci := 3) (v := .ref bQ) (C := R_M) (T := F_M) (N := 17) hx hb htA in_M hown hK hP 0 rfl rfl 7 (by decide) (htA _ k_256) (fun _ h9 => h9) rfl d_M_isNothing_13 ?_
    refine lv_iload_n hx hb d_M_isNothing_16 rfl (lv_at hl 1 rfl) ?_
    refine va_lald hx hb hK hP 2 1 rfl rfl hi2 d_M_isNothing_17 ?_
    refine lv_lconst (v := 0) hx hb d_M_isNothing_18 (by decide) ?_
    refine W.lcmp hx hb d_M_isNothing_19 ?_
    refine lv_if_ne (tgt := 27) hx hb d_M_isNothing_20 (by decide) (fun c_20 => ?_) (fun c_20 => ?_)
    · skip
      have c_20 : ¬ (pt ii.toNatClampNeg) = 0 := fun h9 => c_20 ((lg_cmp_eq _ _).mpr h9)
      refine lv_iconst (v := 0) hx hb d_M_isNothing_27 (by decide) ?_
      have hE : g_M_isNothing pw pt ii = (false) := by clear hP hD hl hS; unfold g_M_isNothing; (try dsimp only); rw [if_neg c_9, if_neg c_20]
      have hP9 : va_P (dC, dI) classes [(bM, .inr (3, [.int cd, .int wd, .ref bT, .ref bF, .int al, .ref bN, .ref bP, .ref bQ, .ref bR, .int sz1, .int un, .int (b2i mo), .int tl, .int (b2i sp), .int tpo, .long fro, .int (b2i ly)])), (bP, .inl (kP, 2, .inl pw)), (bQ, .inl (kQ, 2, .inr (.inl pt)))] H := by exact hP.sub [0, 1, 2] rfl
      have hD9 : va_D A [(bM, .inr (3, [.int cd, .int wd, .ref bT, .ref bF, .int al, .ref bN, .ref bP, .ref bQ, .ref bR, .int sz1, .int un, .int (b2i mo), .int tl, .int (b2i sp), .int tpo, .long fro, .int (b2i ly)])), (bP, .inl (kP, 2, .inl pw)), (bQ, .inl (kQ, 2, .inr (.inl pt)))] := by exact hD.sub [0, 1, 2] (by decide) rfl
      exact W.zret (v := 0) hx hb hr (by first | exact nar_b2i _ | rfl) (fun t ht hW => ⟨⟨0, (), rfl, by rw [hE]; rfl, by rw [ht]; exact hP9, hD9⟩, hS.F ht⟩) hS.2.2 d_M_isNothing_28
    · skip
      have c_20 : (pt ii.toNatClampNeg) = 0 := (lg_cmp_eq _ _).mp c_20
      refine lv_iconst (v := 1) hx hb d_M_isNothing_23 (by decide) ?_
      refine lv_goto (tgt := 28) hx hb d_M_isNothing_24 (by decide) ?_
      have hE : g_M_isNothing pw pt ii = (true) := by clear hP hD hl hS; unfold g_M_isNothing; (try dsimp only); rw [if_neg c_9, if_pos c_20]
      have hP9 : va_P (dC, dI) classes [(bM, .inr (3, [.int cd, .int wd, .ref bT, .ref bF, .int al, .ref bN, .ref bP, .ref bQ, .ref bR, .int sz1, .int un, .int (b2i mo), .int tl, .int (b2i sp), .int tpo, .long fro, .int (b2i ly)])), (bP, .inl (kP, 2, .inl pw)), (bQ, .inl (kQ, 2, .inr (.inl pt)))] H := by exact hP.sub [0, 1, 2] rfl
      have hD9 : va_D A [(bM, .inr (3, [.int cd, .int wd, .ref bT, .ref bF, .int al, .ref bN, .ref bP, .ref bQ, .ref bR, .int sz1, .int un, .int (b2i mo), .int tl, .int (b2i sp), .int tpo, .long fro, .int (b2i ly)])), (bP, .inl (kP, 2, .inl pw)), (bQ, .inl (kQ, 2, .inr (.inl pt)))] := by exact hD.sub [0, 1, 2] (by decide) rfl
      exact W.zret (v := 1) hx hb hr (by first | exact nar_b2i _ | rfl) (fun t ht hW => ⟨⟨1, (), rfl, by rw [hE]; rfl, by rw [ht]; exact hP9, hD9⟩, hS.F ht⟩) hS.2.2 d_M_isNothing_28
