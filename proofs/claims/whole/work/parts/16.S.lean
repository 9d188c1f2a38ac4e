theorem d_S_isRoundedAway_0 : decode b_S_isRoundedAway 0 = .ok (.iload_n 2, 1) := by decide +kernel
theorem d_S_isRoundedAway_1 : decode b_S_isRoundedAway 1 = .ok (.tableswitch 57 0 2 #[27, 45, 47], 27) := by decide +kernel
theorem d_S_isRoundedAway_28 : decode b_S_isRoundedAway 28 = .ok (.iload_n 0, 1) := by decide +kernel
theorem d_S_isRoundedAway_29 : decode b_S_isRoundedAway 29 = .ok (.ifCond .gt 11, 3) := by decide +kernel
theorem d_S_isRoundedAway_40 : decode b_S_isRoundedAway 40 = .ok (.iconst 1, 1) := by decide +kernel
theorem d_S_isRoundedAway_41 : decode b_S_isRoundedAway 41 = .ok (.goto 4, 3) := by decide +kernel
theorem d_S_isRoundedAway_45 : decode b_S_isRoundedAway 45 = .ok (.ireturn, 1) := by decide +kernel
theorem d_S_isRoundedAway_32 : decode b_S_isRoundedAway 32 = .ok (.iload_n 0, 1) := by decide +kernel
theorem d_S_isRoundedAway_33 : decode b_S_isRoundedAway 33 = .ok (.ifCond .ne 11, 3) := by decide +kernel
theorem d_S_isRoundedAway_44 : decode b_S_isRoundedAway 44 = .ok (.iconst 0, 1) := by decide +kernel
theorem d_S_isRoundedAway_36 : decode b_S_isRoundedAway 36 = .ok (.iload_n 1, 1) := by decide +kernel
theorem d_S_isRoundedAway_37 : decode b_S_isRoundedAway 37 = .ok (.ifCond .eq 7, 3) := by decide +kernel
theorem d_S_isRoundedAway_46 : decode b_S_isRoundedAway 46 = .ok (.iload_n 3, 1) := by decide +kernel
theorem d_S_isRoundedAway_47 : decode b_S_isRoundedAway 47 = .ok (.ireturn, 1) := by decide +kernel
theorem d_S_isRoundedAway_48 : decode b_S_isRoundedAway 48 = .ok (.iload_n 3, 1) := by decide +kernel
theorem d_S_isRoundedAway_49 : decode b_S_isRoundedAway 49 = .ok (.ifCond .ne 7, 3) := by decide +kernel
theorem d_S_isRoundedAway_56 : decode b_S_isRoundedAway 56 = .ok (.iconst 0, 1) := by decide +kernel
theorem d_S_isRoundedAway_57 : decode b_S_isRoundedAway 57 = .ok (.ireturn, 1) := by decide +kernel
theorem d_S_isRoundedAway_52 : decode b_S_isRoundedAway 52 = .ok (.iconst 1, 1) := by decide +kernel
theorem d_S_isRoundedAway_53 : decode b_S_isRoundedAway 53 = .ok (.goto 4, 3) := by decide +kernel
theorem d_S_isRoundedAway_58 : decode b_S_isRoundedAway 58 = .ok (.iconst 0, 1) := by decide +kernel
theorem d_S_isRoundedAway_59 : decode b_S_isRoundedAway 59 = .ok (.ireturn, 1) := by decide +kernel
set_option maxHeartbeats 4000000 in
set_option maxRecDepth 100000 in
theorem c_S_isRoundedAway (l : Launch) (dC : Nat → ClassId) (dI : Nat → Nat → Nat) (sz : Nat) (io : Int32) (bo : Bool) (ir : Int32) (bn : Bool) : Met l y_S_isRoundedAway w_S_isRoundedAway ({ frames := 0, cells := 0, slots := 0, locals := 0 }) (cPc (dC, dI) [] [.int io, .int (b2i bo), .int ir, .int (b2i bn)] [] sz) (va_Qi (fun (r : Int32) (_ : Unit) => r = b2i ((g_S_isRoundedAway io bo ir bn))) (fun _ t => va_P (dC, dI) classes [] t.heap ∧ va_D (va_A [] sz) []) (va_A [] sz)) 0 0 (va_A [] sz) := by
  refine Met.ofW (cc := b_S_isRoundedAway) (maxL := 4) (ret := (some .boolean)) (by decide) rfl ?_
  intro p e s m args below meth c s₁ B hml hv
  obtain ⟨rfl, hsz, hP, hK, hD0, hnw⟩ := hv
  have hx := B.exec
  have hb := B.bytes
  have hr := B.returns
  have hts := atoms_spec (ws := w_S_isRoundedAway) B.pre
  have htA : ∀ w ∈ wAll, w.before _ s = true := fun w h => hts w (List.mem_cons_of_mem _ h)
  have hown : s.vm.findClass R_S = some m.cls := findClass_of_methodNamed B.named
  have hlocks := B.notSynchronized
  subst hsz
  have hD := hD0.self (sz := s.heap.size)
  generalize hAe : va_A [] s.heap.size = A at hD ⊢
  have hA : ∀ q : Nat, s.heap.size ≤ q → A q := fun q h => by rw [← hAe]; exact Or.inr h
  have hS : va_S A s.heap s.heap [] := va_S.rf
  have hP : va_P (dC, dI) classes [] s.heap := hP
  obtain ⟨H, eH⟩ : ∃ z, z = s.heap := ⟨_, rfl⟩
  rw [← eH] at hP
  have hS : va_S A s.heap H [] := by rw [eH]; exact hS
  rw [← eH]
  generalize ([] : List Loc) = locs at hS ⊢
  have hl := lv_entry ([.int io, .int (b2i bo), .int ir, .int (b2i bn)]) (n := 4) (Nat.le_of_ble_eq_true rfl)
  rw [lg_entry_eq]
  generalize (lg_sl ([.int io, .int (b2i bo), .int ir, .int (b2i bn)]) ++ List.replicate (4 - (lg_sl ([.int io, .int (b2i bo), .int ir, .int (b2i bn)])).length) Slot.unset).toArray = ls at hl ⊢
  have hl : lv_has ls 4 [(0, .int io), (1, .int (b2i bo)), (2, .int ir), (3, .int (b2i bn))] := hl
  refine lv_iload_n hx hb d_S_isRoundedAway_0 rfl (lv_at hl 2 rfl) ?_
  by_cases c_1_0 : ir = 0
  · skip
    refine lv_tableIn (off := 27) (tgt := 28) hx hb d_S_isRoundedAway_1 (by rw [c_1_0]; decide) (by rw [c_1_0]; decide) (by rw [c_1_0]; rfl) (by decide) ?_
    refine lv_iload_n hx hb d_S_isRoundedAway_28 rfl (lv_at hl 0 rfl) ?_
    refine lv_if_gt (tgt := 40) hx hb d_S_isRoundedAway_29 (by decide) (fun c_29 => ?_) (fun c_29 => ?_)
    · skip
      refine lv_iconst (v := 1) hx hb d_S_isRoundedAway_40 (by decide) ?_
      refine lv_goto (tgt := 45) hx hb d_S_isRoundedAway_41 (by decide) ?_
      have hE : g_S_isRoundedAway io bo ir bn = (true) := by clear hP hD hl hS; unfold g_S_isRoundedAway; (try dsimp only); rw [if_pos c_1_0, if_pos c_29]
      have hP9 : va_P (dC, dI) classes [] H := by exact hP.sub [] rfl
      have hD9 : va_D A [] := by exact hD.sub [] (by decide) rfl
      exact W.zret (v := 1) hx hb hr (by first | exact nar_b2i _ | rfl) (fun t ht hW => ⟨⟨1, (), rfl, by rw [hE]; rfl, by rw [ht]; exact hP9, hD9⟩, hS.F ht⟩) hS.2.2 d_S_isRoundedAway_45
    · skip
      refine lv_iload_n hx hb d_S_isRoundedAway_32 rfl (lv_at hl 0 rfl) ?_
      refine lv_if_ne (tgt := 44) hx hb d_S_isRoundedAway_33 (by decide) (fun c_33 => ?_) (fun c_33 => ?_)
      · skip
        refine lv_iconst (v := 0) hx hb d_S_isRoundedAway_44 (by decide) ?_
        have hE : g_S_isRoundedAway io bo ir bn = (false) := by clear hP hD hl hS; unfold g_S_isRoundedAway; (try dsimp only); rw [if_pos c_1_0, if_neg c_29, if_neg c_33]
        have hP9 : va_P (dC, dI) classes [] H := by exact hP.sub [] rfl
        have hD9 : va_D A [] := by exact hD.sub [] (by decide) rfl
        exact W.zret (v := 0) hx hb hr (by first | exact nar_b2i _ | rfl) (fun t ht hW => ⟨⟨0, (), rfl, by rw [hE]; rfl, by rw [ht]; exact hP9, hD9⟩, hS.F ht⟩) hS.2.2 d_S_isRoundedAway_45
      · skip
        refine lv_iload_n hx hb d_S_isRoundedAway_36 rfl (lv_at hl 1 rfl) ?_
        refine lv_if_eq (tgt := 44) hx hb d_S_isRoundedAway_37 (by decide) (fun c_37 => ?_) (fun c_37 => ?_)
        · skip
          have c_37 : ¬ bo = true := b2i_z c_37
          refine lv_iconst (v := 0) hx hb d_S_isRoundedAway_44 (by decide) ?_
          have hE : g_S_isRoundedAway io bo ir bn = (false) := by clear hP hD hl hS; unfold g_S_isRoundedAway; (try dsimp only); rw [if_pos c_1_0, if_neg c_29, if_pos c_33, if_neg c_37]
          have hP9 : va_P (dC, dI) classes [] H := by exact hP.sub [] rfl
          have hD9 : va_D A [] := by exact hD.sub [] (by decide) rfl
          exact W.zret (v := 0) hx hb hr (by first | exact nar_b2i _ | rfl) (fun t ht hW => ⟨⟨0, (), rfl, by rw [hE]; rfl, by rw [ht]; exact hP9, hD9⟩, hS.F ht⟩) hS.2.2 d_S_isRoundedAway_45
        · skip
          have c_37 : bo = true := b2i_nz c_37
          refine lv_iconst (v := 1) hx hb d_S_isRoundedAway_40 (by decide) ?_
          refine lv_goto (tgt := 45) hx hb d_S_isRoundedAway_41 (by decide) ?_
          have hE : g_S_isRoundedAway io bo ir bn = (true) := by clear hP hD hl hS; unfold g_S_isRoundedAway; (try dsimp only); rw [if_pos c_1_0, if_neg c_29, if_pos c_33, if_pos c_37]
          have hP9 : va_P (dC, dI) classes [] H := by exact hP.sub [] rfl
          have hD9 : va_D A [] := by exact hD.sub [] (by decide) rfl
          exact W.zret (v := 1) hx hb hr (by first | exact nar_b2i _ | rfl) (fun t ht hW => ⟨⟨1, (), rfl, by rw [hE]; rfl, by rw [ht]; exact hP9, hD9⟩, hS.F ht⟩) hS.2.2 d_S_isRoundedAway_45
  · skip
    by_cases c_1_1 : ir = 1
    · skip
      refine lv_tableIn (off := 45) (tgt := 46) hx hb d_S_isRoundedAway_1 (by rw [c_1_1]; decide) (by rw [c_1_1]; decide) (by rw [c_1_1]; rfl) (by decide) ?_
      refine lv_iload_n hx hb d_S_isRoundedAway_46 rfl (lv_at hl 3 rfl) ?_
      have hE : g_S_isRoundedAway io bo ir bn = (bn) := by clear hP hD hl hS; unfold g_S_isRoundedAway; (try dsimp only); rw [if_neg c_1_0, if_pos c_1_1]
      have hP9 : va_P (dC, dI) classes [] H := by exact hP.sub [] rfl
      have hD9 : va_D A [] := by exact hD.sub [] (by decide) rfl
      exact W.zret (v := (b2i bn)) hx hb hr (by first | exact nar_b2i _ | rfl) (fun t ht hW => ⟨⟨(b2i bn), (), rfl, by rw [hE], by rw [ht]; exact hP9, hD9⟩, hS.F ht⟩) hS.2.2 d_S_isRoundedAway_47
    · skip
      by_cases c_1_2 : ir = 2
      · skip
        refine lv_tableIn (off := 47) (tgt := 48) hx hb d_S_isRoundedAway_1 (by rw [c_1_2]; decide) (by rw [c_1_2]; decide) (by rw [c_1_2]; rfl) (by decide) ?_
        refine lv_iload_n hx hb d_S_isRoundedAway_48 rfl (lv_at hl 3 rfl) ?_
        refine lv_if_ne (tgt := 56) hx hb d_S_isRoundedAway_49 (by decide) (fun c_49 => ?_) (fun c_49 => ?_)
        · skip
          have c_49 : bn = true := b2i_nz c_49
          refine lv_iconst (v := 0) hx hb d_S_isRoundedAway_56 (by decide) ?_
          have hE : g_S_isRoundedAway io bo ir bn = (false) := by clear hP hD hl hS; unfold g_S_isRoundedAway; (try dsimp only); rw [if_neg c_1_0, if_neg c_1_1, if_pos c_1_2, if_pos c_49]
          have hP9 : va_P (dC, dI) classes [] H := by exact hP.sub [] rfl
          have hD9 : va_D A [] := by exact hD.sub [] (by decide) rfl
          exact W.zret (v := 0) hx hb hr (by first | exact nar_b2i _ | rfl) (fun t ht hW => ⟨⟨0, (), rfl, by rw [hE]; rfl, by rw [ht]; exact hP9, hD9⟩, hS.F ht⟩) hS.2.2 d_S_isRoundedAway_57
        · skip
          have c_49 : ¬ bn = true := b2i_z c_49
          refine lv_iconst (v := 1) hx hb d_S_isRoundedAway_52 (by decide) ?_
          refine lv_goto (tgt := 57) hx hb d_S_isRoundedAway_53 (by decide) ?_
          have hE : g_S_isRoundedAway io bo ir bn = (true) := by clear hP hD hl hS; unfold g_S_isRoundedAway; (try dsimp only); rw [if_neg c_1_0, if_neg c_1_1, if_pos c_1_2, if_neg c_49]
          have hP9 : va_P (dC, dI) classes [] H := by exact hP.sub [] rfl
          have hD9 : va_D A [] := by exact hD.sub [] (by decide) rfl
          exact W.zret (v := 1) hx hb hr (by first | exact nar_b2i _ | rfl) (fun t ht hW => ⟨⟨1, (), rfl, by rw [hE]; rfl, by rw [ht]; exact hP9, hD9⟩, hS.F ht⟩) hS.2.2 d_S_isRoundedAway_57
      · skip
        refine lv_tableOut (tgt := 58) hx hb d_S_isRoundedAway_1 (by have h09 := lv_neT c_1_0 (a := 0) rfl; have h19 := lv_neT c_1_1 (a := 1) rfl; have h29 := lv_neT c_1_2 (a := 2) rfl; omega) (by decide) ?_
        refine lv_iconst (v := 0) hx hb d_S_isRoundedAway_58 (by decide) ?_
        have hE : g_S_isRoundedAway io bo ir bn = (false) := by clear hP hD hl hS; unfold g_S_isRoundedAway; (try dsimp only); rw [if_neg c_1_0, if_neg c_1_1, if_neg c_1_2]
        have hP9 : va_P (dC, dI) classes [] H := by exact hP.sub [] rfl
        have hD9 : va_D A [] := by exact hD.sub [] (by decide) rfl
        exact W.zret (v := 0) hx hb hr (by first | exact nar_b2i _ | rfl) (fun t ht hW => ⟨⟨0, (), rfl, by rw [hE]; rfl, by rw [ht]; exact hP9, hD9⟩, hS.F ht⟩) hS.2.2 d_S_isRoundedAway_59
theorem d_S_compareDroppedWithHalf_0 : decode b_S_compareDroppedWithHalf 0 = .ok (.iload_n 1, 1) := by decide +kernel
theorem d_S_compareDroppedWithHalf_1 : decode b_S_compareDroppedWithHalf 1 = .ok (.bipush 64, 2) := by decide +kernel
theorem d_S_compareDroppedWithHalf_3 : decode b_S_compareDroppedWithHalf 3 = .ok (.if_icmp .le 5, 3) := by decide +kernel
theorem d_S_compareDroppedWithHalf_8 : decode b_S_compareDroppedWithHalf 8 = .ok (.iload_n 1, 1) := by decide +kernel
theorem d_S_compareDroppedWithHalf_9 : decode b_S_compareDroppedWithHalf 9 = .ok (.ifCond .gt 14, 3) := by decide +kernel
theorem d_S_compareDroppedWithHalf_23 : decode b_S_compareDroppedWithHalf 23 = .ok (.lconst 1, 1) := by decide +kernel
theorem d_S_compareDroppedWithHalf_24 : decode b_S_compareDroppedWithHalf 24 = .ok (.iload_n 1, 1) := by decide +kernel
theorem d_S_compareDroppedWithHalf_25 : decode b_S_compareDroppedWithHalf 25 = .ok (.iconst 1, 1) := by decide +kernel
theorem d_S_compareDroppedWithHalf_26 : decode b_S_compareDroppedWithHalf 26 = .ok (.isub, 1) := by decide +kernel
theorem d_S_compareDroppedWithHalf_27 : decode b_S_compareDroppedWithHalf 27 = .ok (.lshl, 1) := by decide +kernel
theorem d_S_compareDroppedWithHalf_28 : decode b_S_compareDroppedWithHalf 28 = .ok (.lstore_n 2, 1) := by decide +kernel
theorem d_S_compareDroppedWithHalf_29 : decode b_S_compareDroppedWithHalf 29 = .ok (.aload_n 0, 1) := by decide +kernel
theorem d_S_compareDroppedWithHalf_30 : decode b_S_compareDroppedWithHalf 30 = .ok (.getfield 9, 3) := by decide +kernel
theorem d_S_compareDroppedWithHalf_33 : decode b_S_compareDroppedWithHalf 33 = .ok (.lload_n 2, 1) := by decide +kernel
theorem d_S_compareDroppedWithHalf_34 : decode b_S_compareDroppedWithHalf 34 = .ok (.iconst 1, 1) := by decide +kernel
theorem d_S_compareDroppedWithHalf_35 : decode b_S_compareDroppedWithHalf 35 = .ok (.lshl, 1) := by decide +kernel
theorem d_S_compareDroppedWithHalf_36 : decode b_S_compareDroppedWithHalf 36 = .ok (.lconst 1, 1) := by decide +kernel
theorem d_S_compareDroppedWithHalf_37 : decode b_S_compareDroppedWithHalf 37 = .ok (.lsub, 1) := by decide +kernel
theorem d_S_compareDroppedWithHalf_38 : decode b_S_compareDroppedWithHalf 38 = .ok (.land, 1) := by decide +kernel
theorem d_S_compareDroppedWithHalf_39 : decode b_S_compareDroppedWithHalf 39 = .ok (.lstore 4, 2) := by decide +kernel
theorem d_S_compareDroppedWithHalf_41 : decode b_S_compareDroppedWithHalf 41 = .ok (.lload 4, 2) := by decide +kernel
theorem d_S_compareDroppedWithHalf_43 : decode b_S_compareDroppedWithHalf 43 = .ok (.lload_n 2, 1) := by decide +kernel
theorem d_S_compareDroppedWithHalf_44 : decode b_S_compareDroppedWithHalf 44 = .ok (.invokestatic 39, 3) := by decide +kernel
theorem d_S_compareDroppedWithHalf_47 : decode b_S_compareDroppedWithHalf 47 = .ok (.istore 6, 2) := by decide +kernel
theorem d_S_compareDroppedWithHalf_49 : decode b_S_compareDroppedWithHalf 49 = .ok (.iload 6, 2) := by decide +kernel
theorem d_S_compareDroppedWithHalf_51 : decode b_S_compareDroppedWithHalf 51 = .ok (.ifCond .ne 16, 3) := by decide +kernel
theorem d_S_compareDroppedWithHalf_67 : decode b_S_compareDroppedWithHalf 67 = .ok (.iload 6, 2) := by decide +kernel
theorem d_S_compareDroppedWithHalf_69 : decode b_S_compareDroppedWithHalf 69 = .ok (.ireturn, 1) := by decide +kernel
theorem d_S_compareDroppedWithHalf_54 : decode b_S_compareDroppedWithHalf 54 = .ok (.aload_n 0, 1) := by decide +kernel
theorem d_S_compareDroppedWithHalf_55 : decode b_S_compareDroppedWithHalf 55 = .ok (.getfield 15, 3) := by decide +kernel
theorem d_S_compareDroppedWithHalf_58 : decode b_S_compareDroppedWithHalf 58 = .ok (.lconst 0, 1) := by decide +kernel
theorem d_S_compareDroppedWithHalf_59 : decode b_S_compareDroppedWithHalf 59 = .ok (.lcmp, 1) := by decide +kernel
theorem d_S_compareDroppedWithHalf_60 : decode b_S_compareDroppedWithHalf 60 = .ok (.ifCond .eq 7, 3) := by decide +kernel
theorem d_S_compareDroppedWithHalf_63 : decode b_S_compareDroppedWithHalf 63 = .ok (.iconst 1, 1) := by decide +kernel
theorem d_S_compareDroppedWithHalf_64 : decode b_S_compareDroppedWithHalf 64 = .ok (.goto 5, 3) := by decide +kernel
theorem d_S_compareDroppedWithHalf_12 : decode b_S_compareDroppedWithHalf 12 = .ok (.aload_n 0, 1) := by decide +kernel
theorem d_S_compareDroppedWithHalf_13 : decode b_S_compareDroppedWithHalf 13 = .ok (.getfield 15, 3) := by decide +kernel
theorem d_S_compareDroppedWithHalf_16 : decode b_S_compareDroppedWithHalf 16 = .ok (.ldc2_w 80, 3) := by decide +kernel
theorem d_S_compareDroppedWithHalf_19 : decode b_S_compareDroppedWithHalf 19 = .ok (.invokestatic 39, 3) := by decide +kernel
theorem d_S_compareDroppedWithHalf_22 : decode b_S_compareDroppedWithHalf 22 = .ok (.ireturn, 1) := by decide +kernel
theorem d_S_compareDroppedWithHalf_6 : decode b_S_compareDroppedWithHalf 6 = .ok (.iconst (-1), 1) := by decide +kernel
theorem d_S_compareDroppedWithHalf_7 : decode b_S_compareDroppedWithHalf 7 = .ok (.ireturn, 1) := by decide +kernel
set_option maxHeartbeats 4000000 in
set_option maxRecDepth 100000 in
theorem c_S_compareDroppedWithHalf (l : Launch) (dC : Nat → ClassId) (dI : Nat → Nat → Nat) (a4 : Nat) (sz : Nat) (hi : Int64) (lo : Int64) (ex : Int32) (idr : Int32) : Met l y_S_compareDroppedWithHalf w_S_compareDroppedWithHalf ({ frames := 2, cells := 0, slots := 0, locals := 46 }) (cPc (dC, dI) [] [.ref a4, .int idr] [(a4, .inr (2, [.long hi, .long lo, .int ex]))] sz) (va_Qi (fun (r : Int32) (_ : Unit) => r = (g_S_compareDroppedWithHalf hi lo idr)) (fun _ t => va_P (dC, dI) classes [(a4, .inr (2, [.long hi, .long lo, .int ex]))] t.heap ∧ va_D (va_A [(a4, .inr (2, [.long hi, .long lo, .int ex]))] sz) [(a4, .inr (2, [.long hi, .long lo, .int ex]))]) (va_A [(a4, .inr (2, [.long hi, .long lo, .int ex]))] sz)) 0 0 (va_A [(a4, .inr (2, [.long hi, .long lo, .int ex]))] sz) := by
  refine Met.ofW (cc := b_S_compareDroppedWithHalf) (maxL := 7) (ret := (some .int)) (by decide) rfl ?_
  intro p e s m args below meth c s₁ B hml hv
  obtain ⟨rfl, hsz, hP, hK, hD0, hnw⟩ := hv
  have hx := B.exec
  have hb := B.bytes
  have hr := B.returns
  have hts := atoms_spec (ws := w_S_compareDroppedWithHalf) B.pre
  have htA : ∀ w ∈ wAll, w.before _ s = true := fun w h => hts w (List.mem_cons_of_mem _ h)
  have hown : s.vm.findClass R_S = some m.cls := findClass_of_methodNamed B.named
  have hlocks := B.notSynchronized
  subst hsz
  have hD := hD0.self (sz := s.heap.size)
  generalize hAe : va_A [(a4, .inr (2, [.long hi, .long lo, .int ex]))] s.heap.size = A at hD ⊢
  have hA : ∀ q : Nat, s.heap.size ≤ q → A q := fun q h => by rw [← hAe]; exact Or.inr h
  have hS : va_S A s.heap s.heap [] := va_S.rf
  have hP : va_P (dC, dI) classes [(a4, .inr (2, [.long hi, .long lo, .int ex]))] s.heap := hP
  obtain ⟨H, eH⟩ : ∃ z, z = s.heap := ⟨_, rfl⟩
  rw [← eH] at hP
  have hS : va_S A s.heap H [] := by rw [eH]; exact hS
  rw [← eH]
  generalize ([] : List Loc) = locs at hS ⊢
  have hl := lv_entry ([.ref a4, .int idr]) (n := 7) (Nat.le_of_ble_eq_true rfl)
  rw [lg_entry_eq]
  generalize (lg_sl ([.ref a4, .int idr]) ++ List.replicate (7 - (lg_sl ([.ref a4, .int idr])).length) Slot.unset).toArray = ls at hl ⊢
  have hl : lv_has ls 7 [(0, .ref a4), (1, .int idr)] := hl
  refine lv_iload_n hx hb d_S_compareDroppedWithHalf_0 rfl (lv_at hl 1 rfl) ?_
  refine lv_bipush (v := 64) hx hb d_S_compareDroppedWithHalf_1 (by decide) ?_
  refine lv_icmp_le (tgt := 8) hx hb d_S_compareDroppedWithHalf_3 (by decide) (fun c_3 => ?_) (fun c_3 => ?_)
  · skip
    refine lv_iload_n hx hb d_S_compareDroppedWithHalf_8 rfl (lv_at hl 1 rfl) ?_
    refine lv_if_gt (tgt := 23) hx hb d_S_compareDroppedWithHalf_9 (by decide) (fun c_9 => ?_) (fun c_9 => ?_)
    · skip
      refine lv_lconst (v := 1) hx hb d_S_compareDroppedWithHalf_23 (by decide) ?_
      refine lv_iload_n hx hb d_S_compareDroppedWithHalf_24 rfl (lv_at hl 1 rfl) ?_
      refine lv_iconst (v := 1) hx hb d_S_compareDroppedWithHalf_25 (by decide) ?_
      refine lv_isub hx hb d_S_compareDroppedWithHalf_26 ?_
      refine lv_lshl (v := (sL 1 (idr - 1))) hx hb d_S_compareDroppedWithHalf_27 rfl ?_
      refine lv_lstore_n (lv' := [(2, .long (sL 1 (idr - 1))), (0, .ref a4), (1, .int idr)]) hx hb d_S_compareDroppedWithHalf_28 rfl hl (by decide) rfl (fun ls hl => ?_)
      refine lv_aload_n hx hb d_S_compareDroppedWithHalf_29 rfl (lv_at hl 1 rfl) ?_
      refine va_get (D := (dC, dI)) (ci := 2) (v := .long hi) (C := R_S) (T := F_S) (N := 3) hx hb htA in_S hown hK hP 0 rfl rfl 0 (by decide) (htA _ k_14) (fun _ h9 => h9) rfl d_S_compareDroppedWithHalf_30 ?_
      refine lv_lload_n hx hb d_S_compareDroppedWithHalf_33 rfl (lv_at hl 0 rfl) ?_
      refine lv_iconst (v := 1) hx hb d_S_compareDroppedWithHalf_34 (by decide) ?_
      refine lv_lshl (v := (sL (sL 1 (idr - 1)) 1)) hx hb d_S_compareDroppedWithHalf_35 rfl ?_
      refine lv_lconst (v := 1) hx hb d_S_compareDroppedWithHalf_36 (by decide) ?_
      refine lv_lsub hx hb d_S_compareDroppedWithHalf_37 ?_
      refine lv_land hx hb d_S_compareDroppedWithHalf_38 ?_
      refine lv_lstore (lv' := [(4, .long (hi &&& ((sL (sL 1 (idr - 1)) 1) - 1))), (2, .long (sL 1 (idr - 1))), (0, .ref a4), (1, .int idr)]) hx hb d_S_compareDroppedWithHalf_39 hl (by decide) rfl (fun ls hl => ?_)
      refine lv_lload hx hb d_S_compareDroppedWithHalf_41 (lv_at hl 0 rfl) ?_
      refine lv_lload_n hx hb d_S_compareDroppedWithHalf_43 rfl (lv_at hl 1 rfl) ?_
      have hPc := hP.sub (ws' := []) [] rfl
      have hDc := hD.sub (ws' := []) [] (by decide) rfl
      have hKc := hK.sub (tys' := []) [] rfl
      have hFc := va_free (wc := []) hD hS hA [] rfl
      refine cc_i (va_runS (As := [.long (hi &&& ((sL (sL 1 (idr - 1)) 1) - 1)), .long (sL 1 (idr - 1))]) (rest := []) ⟨hx, hb, hml, hown, htA⟩ (c_Lg_compareUnsigned l dC dI H.size (hi &&& ((sL (sL 1 (idr - 1)) 1) - 1)) (sL 1 (idr - 1))) (va_cwS 2 htA (gi_S k_33 k_34 k_2 (gi_code k_5)) rfl rfl rfl (by decide +kernel) ⟨Nat.le_of_ble_eq_true rfl, Nat.le_of_ble_eq_true rfl⟩) (pre_S hnw hPc hKc hDc) rfl rfl hl.1 rfl (lv_room (Nat.le_of_ble_eq_true rfl)) d_S_compareDroppedWithHalf_44 ⟨Nat.le_of_ble_eq_true rfl, Nat.le_of_ble_eq_true rfl⟩) hS hFc hP hD [] [0] (wr := [(a4, .inr (2, [.long hi, .long lo, .int ex]))]) rfl rfl (by decide) (by decide) (fun H locs hP hD hS => ?_)
      have hP : va_P (dC, dI) classes [(a4, .inr (2, [.long hi, .long lo, .int ex]))] H := hP
      have hD : va_D A [(a4, .inr (2, [.long hi, .long lo, .int ex]))] := hD
      refine lv_istore (lv' := [(6, .int (g_Lg_compareUnsigned (hi &&& ((sL (sL 1 (idr - 1)) 1) - 1)) (sL 1 (idr - 1)))), (4, .long (hi &&& ((sL (sL 1 (idr - 1)) 1) - 1))), (2, .long (sL 1 (idr - 1))), (0, .ref a4), (1, .int idr)]) hx hb d_S_compareDroppedWithHalf_47 hl (by decide) rfl (fun ls hl => ?_)
      refine lv_iload hx hb d_S_compareDroppedWithHalf_49 (lv_at hl 0 rfl) ?_
      refine lv_if_ne (tgt := 67) hx hb d_S_compareDroppedWithHalf_51 (by decide) (fun c_51 => ?_) (fun c_51 => ?_)
      · skip
        have c_51 : ¬ uN (hi &&& ((sL (sL 1 (idr - 1)) 1) - 1)) = uN (sL 1 (idr - 1)) := fun h9 => c_51 ((cU_eq _ _).mpr h9)
        refine lv_iload hx hb d_S_compareDroppedWithHalf_67 (lv_at hl 0 rfl) ?_
        have hE : g_S_compareDroppedWithHalf hi lo idr = ((g_Lg_compareUnsigned (hi &&& ((sL (sL 1 (idr - 1)) 1) - 1)) (sL 1 (idr - 1)))) := by clear hP hD hl hS; unfold g_S_compareDroppedWithHalf; (try dsimp only); rw [if_pos c_3, if_pos c_9, if_neg c_51]
        have hP9 : va_P (dC, dI) classes [(a4, .inr (2, [.long hi, .long lo, .int ex]))] H := by exact hP.sub [0] rfl
        have hD9 : va_D A [(a4, .inr (2, [.long hi, .long lo, .int ex]))] := by exact hD.sub [0] (by decide) rfl
        exact W.iret (v := (g_Lg_compareUnsigned (hi &&& ((sL (sL 1 (idr - 1)) 1) - 1)) (sL 1 (idr - 1)))) hx hb hr (fun t ht hW => ⟨⟨(g_Lg_compareUnsigned (hi &&& ((sL (sL 1 (idr - 1)) 1) - 1)) (sL 1 (idr - 1))), (), rfl, by rw [hE], by rw [ht]; exact hP9, hD9⟩, hS.F ht⟩) hS.2.2 d_S_compareDroppedWithHalf_69
      · skip
        have c_51 : uN (hi &&& ((sL (sL 1 (idr - 1)) 1) - 1)) = uN (sL 1 (idr - 1)) := (cU_eq _ _).mp c_51
        refine lv_aload_n hx hb d_S_compareDroppedWithHalf_54 rfl (lv_at hl 3 rfl) ?_
        refine va_get (D := (dC, dI)) (ci := 2) (v := .long lo) (C := R_S) (T := F_S) (N := 3) hx hb htA in_S hown hK hP 0 rfl rfl 1 (by decide) (htA _ k_15) (fun _ h9 => h9) rfl d_S_compareDroppedWithHalf_55 ?_
        refine lv_lconst (v := 0) hx hb d_S_compareDroppedWithHalf_58 (by decide) ?_
        refine W.lcmp hx hb d_S_compareDroppedWithHalf_59 ?_
        refine lv_if_eq (tgt := 67) hx hb d_S_compareDroppedWithHalf_60 (by decide) (fun c_60 => ?_) (fun c_60 => ?_)
        · skip
          have c_60 : lo = 0 := (lg_cmp_eq _ _).mp c_60
          refine lv_iload hx hb d_S_compareDroppedWithHalf_67 (lv_at hl 0 rfl) ?_
          have hE : g_S_compareDroppedWithHalf hi lo idr = ((g_Lg_compareUnsigned (hi &&& ((sL (sL 1 (idr - 1)) 1) - 1)) (sL 1 (idr - 1)))) := by clear hP hD hl hS; unfold g_S_compareDroppedWithHalf; (try dsimp only); rw [if_pos c_3, if_pos c_9, if_pos c_51, if_pos c_60]
          have hP9 : va_P (dC, dI) classes [(a4, .inr (2, [.long hi, .long lo, .int ex]))] H := by exact hP.sub [0] rfl
          have hD9 : va_D A [(a4, .inr (2, [.long hi, .long lo, .int ex]))] := by exact hD.sub [0] (by decide) rfl
          exact W.iret (v := (g_Lg_compareUnsigned (hi &&& ((sL (sL 1 (idr - 1)) 1) - 1)) (sL 1 (idr - 1)))) hx hb hr (fun t ht hW => ⟨⟨(g_Lg_compareUnsigned (hi &&& ((sL (sL 1 (idr - 1)) 1) - 1)) (sL 1 (idr - 1))), (), rfl, by rw [hE], by rw [ht]; exact hP9, hD9⟩, hS.F ht⟩) hS.2.2 d_S_compareDroppedWithHalf_69
        · skip
          have c_60 : ¬ lo = 0 := fun h9 => c_60 ((lg_cmp_eq _ _).mpr h9)
          refine lv_iconst (v := 1) hx hb d_S_compareDroppedWithHalf_63 (by decide) ?_
          refine lv_goto (tgt := 69) hx hb d_S_compareDroppedWithHalf_64 (by decide) ?_
          have hE : g_S_compareDroppedWithHalf hi lo idr = (1) := by clear hP hD hl hS; unfold g_S_compareDroppedWithHalf; (try dsimp only); rw [if_pos c_3, if_pos c_9, if_pos c_51, if_neg c_60]
          have hP9 : va_P (dC, dI) classes [(a4, .inr (2, [.long hi, .long lo, .int ex]))] H := by exact hP.sub [0] rfl
          have hD9 : va_D A [(a4, .inr (2, [.long hi, .long lo, .int ex]))] := by exact hD.sub [0] (by decide) rfl
          exact W.iret (v := 1) hx hb hr (fun t ht hW => ⟨⟨1, (), rfl, by rw [hE], by rw [ht]; exact hP9, hD9⟩, hS.F ht⟩) hS.2.2 d_S_compareDroppedWithHalf_69
    · skip
      refine lv_aload_n hx hb d_S_compareDroppedWithHalf_12 rfl (lv_at hl 0 rfl) ?_
      refine va_get (D := (dC, dI)) (ci := 2) (v := .long lo) (C := R_S) (T := F_S) (N := 3) hx hb htA in_S hown hK hP 0 rfl rfl 1 (by decide) (htA _ k_15) (fun _ h9 => h9) rfl d_S_compareDroppedWithHalf_13 ?_
      refine lv_ldc2 (v := (-9223372036854775808)) hx hb hown (htA _ k_75) d_S_compareDroppedWithHalf_16 ?_
      have hPc := hP.sub (ws' := []) [] rfl
      have hDc := hD.sub (ws' := []) [] (by decide) rfl
      have hKc := hK.sub (tys' := []) [] rfl
      have hFc := va_free (wc := []) hD hS hA [] rfl
      refine cc_i (va_runS (As := [.long lo, .long (-9223372036854775808)]) (rest := []) ⟨hx, hb, hml, hown, htA⟩ (c_Lg_compareUnsigned l dC dI H.size lo (-9223372036854775808)) (va_cwS 2 htA (gi_S k_33 k_34 k_2 (gi_code k_5)) rfl rfl rfl (by decide +kernel) ⟨Nat.le_of_ble_eq_true rfl, Nat.le_of_ble_eq_true rfl⟩) (pre_S hnw hPc hKc hDc) rfl rfl hl.1 rfl (lv_room (Nat.le_of_ble_eq_true rfl)) d_S_compareDroppedWithHalf_19 ⟨Nat.le_of_ble_eq_true rfl, Nat.le_of_ble_eq_true rfl⟩) hS hFc hP hD [] [0] (wr := [(a4, .inr (2, [.long hi, .long lo, .int ex]))]) rfl rfl (by decide) (by decide) (fun H locs hP hD hS => ?_)
      have hP : va_P (dC, dI) classes [(a4, .inr (2, [.long hi, .long lo, .int ex]))] H := hP
      have hD : va_D A [(a4, .inr (2, [.long hi, .long lo, .int ex]))] := hD
      have hE : g_S_compareDroppedWithHalf hi lo idr = ((g_Lg_compareUnsigned lo (-9223372036854775808))) := by clear hP hD hl hS; unfold g_S_compareDroppedWithHalf; (try dsimp only); rw [if_pos c_3, if_neg c_9]
      have hP9 : va_P (dC, dI) classes [(a4, .inr (2, [.long hi, .long lo, .int ex]))] H := by exact hP.sub [0] rfl
      have hD9 : va_D A [(a4, .inr (2, [.long hi, .long lo, .int ex]))] := by exact hD.sub [0] (by decide) rfl
      exact W.iret (v := (g_Lg_compareUnsigned lo (-9223372036854775808))) hx hb hr (fun t ht hW => ⟨⟨(g_Lg_compareUnsigned lo (-9223372036854775808)), (), rfl, by rw [hE], by rw [ht]; exact hP9, hD9⟩, hS.F ht⟩) hS.2.2 d_S_compareDroppedWithHalf_22
  · skip
    refine lv_iconst (v := (-1)) hx hb d_S_compareDroppedWithHalf_6 (by decide) ?_
    have hE : g_S_compareDroppedWithHalf hi lo idr = ((-1)) := by clear hP hD hl hS; unfold g_S_compareDroppedWithHalf; (try dsimp only); rw [if_neg c_3]
    have hP9 : va_P (dC, dI) classes [(a4, .inr (2, [.long hi, .long lo, .int ex]))] H := by exact hP.sub [0] rfl
    have hD9 : va_D A [(a4, .inr (2, [.long hi, .long lo, .int ex]))] := by exact hD.sub [0] (by decide) rfl
    exact W.iret (v := (-1)) hx hb hr (fun t ht hW => ⟨⟨(-1), (), rfl, by rw [hE], by rw [ht]; exact hP9, hD9⟩, hS.F ht⟩) hS.2.2 d_S_compareDroppedWithHalf_7
theorem d_S_round_0 : decode b_S_round 0 = .ok (.iload_n 1, 1) := by decide +kernel
theorem d_S_round_1 : decode b_S_round 1 = .ok (.bipush 64, 2) := by decide +kernel
theorem d_S_round_3 : decode b_S_round 3 = .ok (.if_icmp .ge 14, 3) := by decide +kernel
theorem d_S_round_17 : decode b_S_round 17 = .ok (.lconst 0, 1) := by decide +kernel
theorem d_S_round_6 : decode b_S_round 6 = .ok (.aload_n 0, 1) := by decide +kernel
theorem d_S_round_7 : decode b_S_round 7 = .ok (.getfield 9, 3) := by decide +kernel
theorem d_S_round_10 : decode b_S_round 10 = .ok (.iload_n 1, 1) := by decide +kernel
theorem d_S_round_11 : decode b_S_round 11 = .ok (.lushr, 1) := by decide +kernel
theorem d_S_round_12 : decode b_S_round 12 = .ok (.iload_n 1, 1) := by decide +kernel
theorem d_S_round_13 : decode b_S_round 13 = .ok (.lshl, 1) := by decide +kernel
theorem d_S_round_14 : decode b_S_round 14 = .ok (.goto 4, 3) := by decide +kernel
theorem d_S_round_18 : decode b_S_round 18 = .ok (.lstore 4, 2) := by decide +kernel
theorem d_S_round_20 : decode b_S_round 20 = .ok (.lload 4, 2) := by decide +kernel
theorem d_S_round_22 : decode b_S_round 22 = .ok (.aload_n 0, 1) := by decide +kernel
theorem d_S_round_23 : decode b_S_round 23 = .ok (.getfield 9, 3) := by decide +kernel
theorem d_S_round_26 : decode b_S_round 26 = .ok (.lcmp, 1) := by decide +kernel
theorem d_S_round_27 : decode b_S_round 27 = .ok (.ifCond .ne 14, 3) := by decide +kernel
theorem d_S_round_41 : decode b_S_round 41 = .ok (.iload_n 1, 1) := by decide +kernel
theorem d_S_round_42 : decode b_S_round 42 = .ok (.bipush 64, 2) := by decide +kernel
theorem d_S_round_44 : decode b_S_round 44 = .ok (.if_icmp .ge 20, 3) := by decide +kernel
theorem d_S_round_64 : decode b_S_round 64 = .ok (.iconst 0, 1) := by decide +kernel
theorem d_S_round_47 : decode b_S_round 47 = .ok (.aload_n 0, 1) := by decide +kernel
theorem d_S_round_48 : decode b_S_round 48 = .ok (.getfield 9, 3) := by decide +kernel
theorem d_S_round_51 : decode b_S_round 51 = .ok (.iload_n 1, 1) := by decide +kernel
theorem d_S_round_52 : decode b_S_round 52 = .ok (.lushr, 1) := by decide +kernel
theorem d_S_round_53 : decode b_S_round 53 = .ok (.lconst 1, 1) := by decide +kernel
theorem d_S_round_54 : decode b_S_round 54 = .ok (.land, 1) := by decide +kernel
theorem d_S_round_55 : decode b_S_round 55 = .ok (.lconst 0, 1) := by decide +kernel
theorem d_S_round_56 : decode b_S_round 56 = .ok (.lcmp, 1) := by decide +kernel
theorem d_S_round_57 : decode b_S_round 57 = .ok (.ifCond .eq 7, 3) := by decide +kernel
theorem d_S_round_60 : decode b_S_round 60 = .ok (.iconst 1, 1) := by decide +kernel
theorem d_S_round_61 : decode b_S_round 61 = .ok (.goto 4, 3) := by decide +kernel
theorem d_S_round_65 : decode b_S_round 65 = .ok (.istore 6, 2) := by decide +kernel
theorem d_S_round_67 : decode b_S_round 67 = .ok (.aload_n 0, 1) := by decide +kernel
theorem d_S_round_68 : decode b_S_round 68 = .ok (.iload_n 1, 1) := by decide +kernel
theorem d_S_round_69 : decode b_S_round 69 = .ok (.invokevirtual 72, 3) := by decide +kernel
theorem d_S_round_72 : decode b_S_round 72 = .ok (.iload 6, 2) := by decide +kernel
theorem d_S_round_74 : decode b_S_round 74 = .ok (.iload_n 2, 1) := by decide +kernel
theorem d_S_round_75 : decode b_S_round 75 = .ok (.iload_n 3, 1) := by decide +kernel
theorem d_S_round_76 : decode b_S_round 76 = .ok (.invokestatic 76, 3) := by decide +kernel
theorem d_S_round_79 : decode b_S_round 79 = .ok (.istore 7, 2) := by decide +kernel
theorem d_S_round_81 : decode b_S_round 81 = .ok (.aload_n 0, 1) := by decide +kernel
theorem d_S_round_82 : decode b_S_round 82 = .ok (.lconst 0, 1) := by decide +kernel
theorem d_S_round_83 : decode b_S_round 83 = .ok (.putfield 15, 3) := by decide +kernel
theorem d_S_round_86 : decode b_S_round 86 = .ok (.iload 7, 2) := by decide +kernel
theorem d_S_round_88 : decode b_S_round 88 = .ok (.ifCond .ne 12, 3) := by decide +kernel
theorem d_S_round_100 : decode b_S_round 100 = .ok (.iload_n 1, 1) := by decide +kernel
theorem d_S_round_101 : decode b_S_round 101 = .ok (.bipush 64, 2) := by decide +kernel
theorem d_S_round_103 : decode b_S_round 103 = .ok (.if_icmp .lt 26, 3) := by decide +kernel
theorem d_S_round_129 : decode b_S_round 129 = .ok (.aload_n 0, 1) := by decide +kernel
theorem d_S_round_130 : decode b_S_round 130 = .ok (.lload 4, 2) := by decide +kernel
theorem d_S_round_132 : decode b_S_round 132 = .ok (.lconst 1, 1) := by decide +kernel
theorem d_S_round_133 : decode b_S_round 133 = .ok (.iload_n 1, 1) := by decide +kernel
theorem d_S_round_134 : decode b_S_round 134 = .ok (.lshl, 1) := by decide +kernel
theorem d_S_round_135 : decode b_S_round 135 = .ok (.ladd, 1) := by decide +kernel
theorem d_S_round_136 : decode b_S_round 136 = .ok (.putfield 9, 3) := by decide +kernel
theorem d_S_round_139 : decode b_S_round 139 = .ok (.aload_n 0, 1) := by decide +kernel
theorem d_S_round_140 : decode b_S_round 140 = .ok (.getfield 9, 3) := by decide +kernel
theorem d_S_round_143 : decode b_S_round 143 = .ok (.lconst 0, 1) := by decide +kernel
theorem d_S_round_144 : decode b_S_round 144 = .ok (.lcmp, 1) := by decide +kernel
theorem d_S_round_145 : decode b_S_round 145 = .ok (.ifCond .ne 20, 3) := by decide +kernel
theorem d_S_round_148 : decode b_S_round 148 = .ok (.aload_n 0, 1) := by decide +kernel
theorem d_S_round_149 : decode b_S_round 149 = .ok (.ldc2_w 80, 3) := by decide +kernel
theorem d_S_round_152 : decode b_S_round 152 = .ok (.putfield 9, 3) := by decide +kernel
theorem d_S_round_155 : decode b_S_round 155 = .ok (.aload_n 0, 1) := by decide +kernel
theorem d_S_round_156 : decode b_S_round 156 = .ok (.dup, 1) := by decide +kernel
theorem d_S_round_157 : decode b_S_round 157 = .ok (.getfield 18, 3) := by decide +kernel
theorem d_S_round_160 : decode b_S_round 160 = .ok (.iconst 1, 1) := by decide +kernel
theorem d_S_round_161 : decode b_S_round 161 = .ok (.iadd, 1) := by decide +kernel
theorem d_S_round_162 : decode b_S_round 162 = .ok (.putfield 18, 3) := by decide +kernel
theorem d_S_round_106 : decode b_S_round 106 = .ok (.aload_n 0, 1) := by decide +kernel
theorem d_S_round_107 : decode b_S_round 107 = .ok (.ldc2_w 80, 3) := by decide +kernel
theorem d_S_round_110 : decode b_S_round 110 = .ok (.putfield 9, 3) := by decide +kernel
theorem d_S_round_113 : decode b_S_round 113 = .ok (.aload_n 0, 1) := by decide +kernel
theorem d_S_round_114 : decode b_S_round 114 = .ok (.dup, 1) := by decide +kernel
theorem d_S_round_115 : decode b_S_round 115 = .ok (.getfield 18, 3) := by decide +kernel
theorem d_S_round_118 : decode b_S_round 118 = .ok (.iload_n 1, 1) := by decide +kernel
theorem d_S_round_119 : decode b_S_round 119 = .ok (.bipush 63, 2) := by decide +kernel
theorem d_S_round_121 : decode b_S_round 121 = .ok (.isub, 1) := by decide +kernel
theorem d_S_round_122 : decode b_S_round 122 = .ok (.iadd, 1) := by decide +kernel
theorem d_S_round_123 : decode b_S_round 123 = .ok (.putfield 18, 3) := by decide +kernel
theorem d_S_round_126 : decode b_S_round 126 = .ok (.goto 39, 3) := by decide +kernel
theorem d_S_round_91 : decode b_S_round 91 = .ok (.aload_n 0, 1) := by decide +kernel
theorem d_S_round_92 : decode b_S_round 92 = .ok (.lload 4, 2) := by decide +kernel
theorem d_S_round_94 : decode b_S_round 94 = .ok (.putfield 9, 3) := by decide +kernel
theorem d_S_round_97 : decode b_S_round 97 = .ok (.goto 68, 3) := by decide +kernel
theorem d_S_round_165 : decode b_S_round 165 = .ok (.iconst 1, 1) := by decide +kernel
theorem d_S_round_166 : decode b_S_round 166 = .ok (.ireturn, 1) := by decide +kernel
theorem d_S_round_30 : decode b_S_round 30 = .ok (.aload_n 0, 1) := by decide +kernel
theorem d_S_round_31 : decode b_S_round 31 = .ok (.getfield 15, 3) := by decide +kernel
theorem d_S_round_34 : decode b_S_round 34 = .ok (.lconst 0, 1) := by decide +kernel
theorem d_S_round_35 : decode b_S_round 35 = .ok (.lcmp, 1) := by decide +kernel
theorem d_S_round_36 : decode b_S_round 36 = .ok (.ifCond .ne 5, 3) := by decide +kernel
theorem d_S_round_39 : decode b_S_round 39 = .ok (.iconst 0, 1) := by decide +kernel
theorem d_S_round_40 : decode b_S_round 40 = .ok (.ireturn, 1) := by decide +kernel
set_option maxHeartbeats 4000000 in
set_option maxRecDepth 100000 in
theorem c_S_round (l : Launch) (dC : Nat → ClassId) (dI : Nat → Nat → Nat) (a4 : Nat) (sz : Nat) (hi : Int64) (lo : Int64) (ex : Int32) (idr : Int32) (ir : Int32) (bn : Bool) : Met l y_S_round w_S_round ({ frames := 3, cells := 0, slots := 0, locals := 72 }) (cPc (dC, dI) [] [.ref a4, .int idr, .int ir, .int (b2i bn)] [(a4, .inr (2, [.long hi, .long lo, .int ex]))] sz) (va_Qi (fun (r : Int32) (_ : Unit) => r = b2i ((g_S_round hi lo ex idr ir bn).1)) (fun _ t => va_P (dC, dI) classes [(a4, .inr (2, [.long ((g_S_round hi lo ex idr ir bn).2.1), .long ((g_S_round hi lo ex idr ir bn).2.2.1), .int ((g_S_round hi lo ex idr ir bn).2.2.2)]))] t.heap ∧ va_D (va_A [(a4, .inr (2, [.long hi, .long lo, .int ex]))] sz) [(a4, .inr (2, [.long ((g_S_round hi lo ex idr ir bn).2.1), .long ((g_S_round hi lo ex idr ir bn).2.2.1), .int ((g_S_round hi lo ex idr ir bn).2.2.2)]))]) (va_A [(a4, .inr (2, [.long hi, .long lo, .int ex]))] sz)) 0 0 (va_A [(a4, .inr (2, [.long hi, .long lo, .int ex]))] sz) := by
  refine Met.ofW (cc := b_S_round) (maxL := 8) (ret := (some .boolean)) (by decide) rfl ?_
  intro p e s m args below meth c s₁ B hml hv
  obtain ⟨rfl, hsz, hP, hK, hD0, hnw⟩ := hv
  have hx := B.exec
  have hb := B.bytes
  have hr := B.returns
  have hts := atoms_spec (ws := w_S_round) B.pre
  have htA : ∀ w ∈ wAll, w.before _ s = true := fun w h => hts w (List.mem_cons_of_mem _ h)
  have hown : s.vm.findClass R_S = some m.cls := findClass_of_methodNamed B.named
  have hlocks := B.notSynchronized
  subst hsz
  have hD := hD0.self (sz := s.heap.size)
  generalize hAe : va_A [(a4, .inr (2, [.long hi, .long lo, .int ex]))] s.heap.size = A at hD ⊢
  have hA : ∀ q : Nat, s.heap.size ≤ q → A q := fun q h => by rw [← hAe]; exact Or.inr h
  have hS : va_S A s.heap s.heap [] := va_S.rf
  have hP : va_P (dC, dI) classes [(a4, .inr (2, [.long hi, .long lo, .int ex]))] s.heap := hP
  obtain ⟨H, eH⟩ : ∃ z, z = s.heap := ⟨_, rfl⟩
  rw [← eH] at hP
  have hS : va_S A s.heap H [] := by rw [eH]; exact hS
  rw [← eH]
  generalize ([] : List Loc) = locs at hS ⊢
  have hl := lv_entry ([.ref a4, .int idr, .int ir, .int (b2i bn)]) (n := 8) (Nat.le_of_ble_eq_true rfl)
  rw [lg_entry_eq]
  generalize (lg_sl ([.ref a4, .int idr, .int ir, .int (b2i bn)]) ++ List.replicate (8 - (lg_sl ([.ref a4, .int idr, .int ir, .int (b2i bn)])).length) Slot.unset).toArray = ls at hl ⊢
  have hl : lv_has ls 8 [(0, .ref a4), (1, .int idr), (2, .int ir), (3, .int (b2i bn))] := hl
  refine lv_iload_n hx hb d_S_round_0 rfl (lv_at hl 1 rfl) ?_
  refine lv_bipush (v := 64) hx hb d_S_round_1 (by decide) ?_
  refine cut_join (X := Int64) 0 0 (fun (x : Int64) (H : Heap) (locs : List Loc) (ls : Array Slot) => (if 64 ≤ idr then 0 else (sL (uR hi idr) idr)) = x ∧ va_P (dC, dI) classes [(a4, .inr (2, [.long hi, .long lo, .int ex]))] H ∧ va_D A [(a4, .inr (2, [.long hi, .long lo, .int ex]))] ∧ va_S A s.heap H locs ∧ lv_has ls 8 [(0, .ref a4), (1, .int idr), (2, .int ir), (3, .int (b2i bn))]) (fun x ls => F0 m 18 ls [.long x]) ?_ (fun J18 => ?_)
  · skip
    rintro j18_0 H locs ls ⟨ej18_0, hP, hD, hS, hl⟩
    have ej18_0 : (if 64 ≤ idr then 0 else (sL (uR hi idr) idr)) = j18_0 := ej18_0
    have hP : va_P (dC, dI) classes [(a4, .inr (2, [.long hi, .long lo, .int ex]))] H := hP
    have hD : va_D A [(a4, .inr (2, [.long hi, .long lo, .int ex]))] := hD
    have hl : lv_has ls 8 [(0, .ref a4), (1, .int idr), (2, .int ir), (3, .int (b2i bn))] := hl
    refine lv_lstore (lv' := [(4, .long j18_0), (0, .ref a4), (1, .int idr), (2, .int ir), (3, .int (b2i bn))]) hx hb d_S_round_18 hl (by decide) rfl (fun ls hl => ?_)
    refine lv_lload hx hb d_S_round_20 (lv_at hl 0 rfl) ?_
    refine lv_aload_n hx hb d_S_round_22 rfl (lv_at hl 1 rfl) ?_
    refine va_get (D := (dC, dI)) (ci := 2) (v := .long hi) (C := R_S) (T := F_S) (N := 3) hx hb htA in_S hown hK hP 0 rfl rfl 0 (by decide) (htA _ k_14) (fun _ h9 => h9) rfl d_S_round_23 ?_
    refine W.lcmp hx hb d_S_round_26 ?_
    refine lv_if_ne (tgt := 41) hx hb d_S_round_27 (by decide) (fun c_27 => ?_) (fun c_27 => ?_)
    · skip
      have c_27 : ¬ j18_0 = hi := fun h9 => c_27 ((lg_cmp_eq _ _).mpr h9)
      refine lv_iload_n hx hb d_S_round_41 rfl (lv_at hl 2 rfl) ?_
      refine lv_bipush (v := 64) hx hb d_S_round_42 (by decide) ?_
      refine cut_join (X := Bool) 0 0 (fun (x : Bool) (H : Heap) (locs : List Loc) (ls : Array Slot) => (if 64 ≤ idr then false else if ((uR hi idr) &&& 1) = 0 then false else true) = x ∧ va_P (dC, dI) classes [(a4, .inr (2, [.long hi, .long lo, .int ex]))] H ∧ va_D A [(a4, .inr (2, [.long hi, .long lo, .int ex]))] ∧ va_S A s.heap H locs ∧ lv_has ls 8 [(0, .ref a4), (1, .int idr), (2, .int ir), (3, .int (b2i bn)), (4, .long j18_0)]) (fun x ls => F0 m 65 ls [.int (b2i x)]) ?_ (fun J65 => ?_)
      · skip
        rintro j65_0 H locs ls ⟨ej65_0, hP, hD, hS, hl⟩
        have ej65_0 : (if 64 ≤ idr then false else if ((uR hi idr) &&& 1) = 0 then false else true) = j65_0 := ej65_0
        have hP : va_P (dC, dI) classes [(a4, .inr (2, [.long hi, .long lo, .int ex]))] H := hP
        have hD : va_D A [(a4, .inr (2, [.long hi, .long lo, .int ex]))] := hD
        have hl : lv_has ls 8 [(0, .ref a4), (1, .int idr), (2, .int ir), (3, .int (b2i bn)), (4, .long j18_0)] := hl
        refine lv_istore (lv' := [(6, .int (b2i j65_0)), (0, .ref a4), (1, .int idr), (2, .int ir), (3, .int (b2i bn)), (4, .long j18_0)]) hx hb d_S_round_65 hl (by decide) rfl (fun ls hl => ?_)
        refine lv_aload_n hx hb d_S_round_67 rfl (lv_at hl 1 rfl) ?_
        refine lv_iload_n hx hb d_S_round_68 rfl (lv_at hl 2 rfl) ?_
        have hPc := hP.sub (ws' := [(a4, .inr (2, [.long hi, .long lo, .int ex]))]) [0] rfl
        have hDc := hD.sub (ws' := [(a4, .inr (2, [.long hi, .long lo, .int ex]))]) [0] (by decide) rfl
        have hKc := hK.sub (tys' := []) [] rfl
        have hFc := va_free (wc := [(a4, .inr (2, [.long hi, .long lo, .int ex]))]) hD hS hA [0] rfl
        refine cc_i (va_runV (As := [.int idr]) (rest := []) ⟨hx, hb, hml, hown, htA⟩ (c_S_compareDroppedWithHalf l dC dI a4 H.size hi lo ex idr) (cwV 1 htA (gi_V k_77 k_78 k_79 k_36 (gi_code k_76)) rfl rfl rfl (by decide +kernel) ⟨Nat.le_of_ble_eq_true rfl, Nat.le_of_ble_eq_true rfl⟩) (pre_V hnw hPc hKc hDc (ci := 2) (q0 := 0) rfl rfl) rfl rfl hl.1 rfl (lv_room (Nat.le_of_ble_eq_true rfl)) d_S_round_69 ⟨Nat.le_of_ble_eq_true rfl, Nat.le_of_ble_eq_true rfl⟩) hS hFc hP hD [0] [] (wr := []) rfl rfl (by decide) (by decide) (fun H locs hP hD hS => ?_)
        have hP : va_P (dC, dI) classes [(a4, .inr (2, [.long hi, .long lo, .int ex]))] H := hP
        have hD : va_D A [(a4, .inr (2, [.long hi, .long lo, .int ex]))] := hD
        refine lv_iload hx hb d_S_round_72 (lv_at hl 0 rfl) ?_
        refine lv_iload_n hx hb d_S_round_74 rfl (lv_at hl 3 rfl) ?_
        refine lv_iload_n hx hb d_S_round_75 rfl (lv_at hl 4 rfl) ?_
        have hPc := hP.sub (ws' := []) [] rfl
        have hDc := hD.sub (ws' := []) [] (by decide) rfl
        have hKc := hK.sub (tys' := []) [] rfl
        have hFc := va_free (wc := []) hD hS hA [] rfl
        refine cc_i (va_runS (As := [.int (g_S_compareDroppedWithHalf hi lo idr), .int (b2i j65_0), .int ir, .int (b2i bn)]) (rest := []) ⟨hx, hb, hml, hown, htA⟩ (c_S_isRoundedAway l dC dI H.size (g_S_compareDroppedWithHalf hi lo idr) j65_0 ir bn) (va_cwS 4 htA (gi_S k_80 k_81 k_36 (gi_code k_74)) rfl rfl rfl (by decide +kernel) ⟨Nat.le_of_ble_eq_true rfl, Nat.le_of_ble_eq_true rfl⟩) (pre_S hnw hPc hKc hDc) rfl rfl hl.1 rfl (lv_room (Nat.le_of_ble_eq_true rfl)) d_S_round_76 ⟨Nat.le_of_ble_eq_true rfl, Nat.le_of_ble_eq_true rfl⟩) hS hFc hP hD [] [0] (wr := [(a4, .inr (2, [.long hi, .long lo, .int ex]))]) rfl rfl (by decide) (by decide) (fun H locs hP hD hS => ?_)
        have hP : va_P (dC, dI) classes [(a4, .inr (2, [.long hi, .long lo, .int ex]))] H := hP
        have hD : va_D A [(a4, .inr (2, [.long hi, .long lo, .int ex]))] := hD
        refine lv_istore (lv' := [(7, .int (b2i (g_S_isRoundedAway (g_S_compareDroppedWithHalf hi lo idr) j65_0 ir bn))), (6, .int (b2i j65_0)), (0, .ref a4), (1, .int idr), (2, .int ir), (3, .int (b2i bn)), (4, .long j18_0)]) hx hb d_S_round_79 hl (by decide) rfl (fun ls hl => ?_)
        refine lv_aload_n hx hb d_S_round_81 rfl (lv_at hl 2 rfl) ?_
        refine lv_lconst (v := 0) hx hb d_S_round_82 (by decide) ?_
        refine va_put (D := (dC, dI)) (ci := 2) (v := .long 0) (ty := .long) (C := R_S) (T := F_S) (N := 3) hx hb htA in_S t_S t_S_ok n_S hown hK hP hD hS 0 rfl rfl 1 (by decide) (htA _ k_15) (fun _ h9 => h9) rfl (by decide +kernel) rfl rfl (Nat.le_of_ble_eq_true rfl) d_S_round_83 (fun H locs hP hD hS => ?_)
        have hP : va_P (dC, dI) classes [(a4, .inr (2, [.long hi, .long 0, .int ex]))] H := hP
        have hD : va_D A [(a4, .inr (2, [.long hi, .long 0, .int ex]))] := hD
        refine lv_iload hx hb d_S_round_86 (lv_at hl 0 rfl) ?_
        refine cut_join (X := Int64 × Int32) 0 0 (fun (x : Int64 × Int32) (H : Heap) (locs : List Loc) (ls : Array Slot) => (if (g_S_isRoundedAway (g_S_compareDroppedWithHalf hi lo idr) j65_0 ir bn) = true then if idr < 64 then if (j18_0 + (sL 1 idr)) = 0 then (-9223372036854775808) else (j18_0 + (sL 1 idr)) else (-9223372036854775808) else j18_0) = x.1 ∧ (if (g_S_isRoundedAway (g_S_compareDroppedWithHalf hi lo idr) j65_0 ir bn) = true then if idr < 64 then if (j18_0 + (sL 1 idr)) = 0 then (ex + 1) else ex else (ex + (idr - 63)) else ex) = x.2 ∧ va_P (dC, dI) classes [(a4, .inr (2, [.long x.1, .long 0, .int x.2]))] H ∧ va_D A [(a4, .inr (2, [.long x.1, .long 0, .int x.2]))] ∧ va_S A s.heap H locs ∧ lv_has ls 8 [(0, .ref a4), (1, .int idr), (2, .int ir), (3, .int (b2i bn)), (4, .long j18_0), (6, .int (b2i j65_0)), (7, .int (b2i (g_S_isRoundedAway (g_S_compareDroppedWithHalf hi lo idr) j65_0 ir bn)))]) (fun x ls => F0 m 165 ls []) ?_ (fun J165 => ?_)
        · skip
          rintro ⟨j165_0, j165_1⟩ H locs ls ⟨ej165_0, ej165_1, hP, hD, hS, hl⟩
          have ej165_0 : (if (g_S_isRoundedAway (g_S_compareDroppedWithHalf hi lo idr) j65_0 ir bn) = true then if idr < 64 then if (j18_0 + (sL 1 idr)) = 0 then (-9223372036854775808) else (j18_0 + (sL 1 idr)) else (-9223372036854775808) else j18_0) = j165_0 := ej165_0
          have ej165_1 : (if (g_S_isRoundedAway (g_S_compareDroppedWithHalf hi lo idr) j65_0 ir bn) = true then if idr < 64 then if (j18_0 + (sL 1 idr)) = 0 then (ex + 1) else ex else (ex + (idr - 63)) else ex) = j165_1 := ej165_1
          have hP : va_P (dC, dI) classes [(a4, .inr (2, [.long j165_0, .long 0, .int j165_1]))] H := hP
          have hD : va_D A [(a4, .inr (2, [.long j165_0, .long 0, .int j165_1]))] := hD
          have hl : lv_has ls 8 [(0, .ref a4), (1, .int idr), (2, .int ir), (3, .int (b2i bn)), (4, .long j18_0), (6, .int (b2i j65_0)), (7, .int (b2i (g_S_isRoundedAway (g_S_compareDroppedWithHalf hi lo idr) j65_0 ir bn)))] := hl
          refine lv_iconst (v := 1) hx hb d_S_round_165 (by decide) ?_
          have hE : g_S_round hi lo ex idr ir bn = (true, j165_0, 0, j165_1) := by clear hP hD hl hS; subst ej165_1; subst ej165_0; subst ej65_0; subst ej18_0; unfold g_S_round; (try dsimp only); rw [if_neg c_27]
          have hP9 : va_P (dC, dI) classes [(a4, .inr (2, [.long ((g_S_round hi lo ex idr ir bn).2.1), .long ((g_S_round hi lo ex idr ir bn).2.2.1), .int ((g_S_round hi lo ex idr ir bn).2.2.2)]))] H := by rw [hE]; exact hP.sub [0] rfl
          have hD9 : va_D A [(a4, .inr (2, [.long ((g_S_round hi lo ex idr ir bn).2.1), .long ((g_S_round hi lo ex idr ir bn).2.2.1), .int ((g_S_round hi lo ex idr ir bn).2.2.2)]))] := by rw [hE]; exact hD.sub [0] (by decide) rfl
          exact W.zret (v := 1) hx hb hr (by first | exact nar_b2i _ | rfl) (fun t ht hW => ⟨⟨1, (), rfl, by rw [hE]; rfl, by rw [ht]; exact hP9, hD9⟩, hS.F ht⟩) hS.2.2 d_S_round_166
        · skip
          refine lv_if_ne (tgt := 100) hx hb d_S_round_88 (by decide) (fun c_88 => ?_) (fun c_88 => ?_)
          · skip
            have c_88 : (g_S_isRoundedAway (g_S_compareDroppedWithHalf hi lo idr) j65_0 ir bn) = true := b2i_nz c_88
            refine lv_iload_n hx hb d_S_round_100 rfl (lv_at hl 3 rfl) ?_
            refine lv_bipush (v := 64) hx hb d_S_round_101 (by decide) ?_
            refine lv_icmp_lt (tgt := 129) hx hb d_S_round_103 (by decide) (fun c_103 => ?_) (fun c_103 => ?_)
            · skip
              refine lv_aload_n hx hb d_S_round_129 rfl (lv_at hl 2 rfl) ?_
              refine lv_lload hx hb d_S_round_130 (lv_at hl 6 rfl) ?_
              refine lv_lconst (v := 1) hx hb d_S_round_132 (by decide) ?_
              refine lv_iload_n hx hb d_S_round_133 rfl (lv_at hl 3 rfl) ?_
              refine lv_lshl (v := (sL 1 idr)) hx hb d_S_round_134 rfl ?_
              refine lv_ladd hx hb d_S_round_135 ?_
              refine va_put (D := (dC, dI)) (ci := 2) (v := .long (j18_0 + (sL 1 idr))) (ty := .long) (C := R_S) (T := F_S) (N := 3) hx hb htA in_S t_S t_S_ok n_S hown hK hP hD hS 0 rfl rfl 0 (by decide) (htA _ k_14) (fun _ h9 => h9) rfl (by decide +kernel) rfl rfl (Nat.le_of_ble_eq_true rfl) d_S_round_136 (fun H locs hP hD hS => ?_)
              have hP : va_P (dC, dI) classes [(a4, .inr (2, [.long (j18_0 + (sL 1 idr)), .long 0, .int ex]))] H := hP
              have hD : va_D A [(a4, .inr (2, [.long (j18_0 + (sL 1 idr)), .long 0, .int ex]))] := hD
              refine lv_aload_n hx hb d_S_round_139 rfl (lv_at hl 2 rfl) ?_
              refine va_get (D := (dC, dI)) (ci := 2) (v := .long (j18_0 + (sL 1 idr))) (C := R_S) (T := F_S) (N := 3) hx hb htA in_S hown hK hP 0 rfl rfl 0 (by decide) (htA _ k_14) (fun _ h9 => h9) rfl d_S_round_140 ?_
              refine lv_lconst (v := 0) hx hb d_S_round_143 (by decide) ?_
              refine W.lcmp hx hb d_S_round_144 ?_
              refine lv_if_ne (tgt := 165) hx hb d_S_round_145 (by decide) (fun c_145 => ?_) (fun c_145 => ?_)
              · skip
                have c_145 : ¬ (j18_0 + (sL 1 idr)) = 0 := fun h9 => c_145 ((lg_cmp_eq _ _).mpr h9)
                exact J165 ((j18_0 + (sL 1 idr)), ex) H locs ls ⟨by clear hP hD hl hS; (try dsimp only); rw [if_pos c_88, if_pos c_103, if_neg c_145], by clear hP hD hl hS; (try dsimp only); rw [if_pos c_88, if_pos c_103, if_neg c_145], hP.sub [0] rfl, hD.sub [0] (by decide) rfl, hS, lv_sub hl [2, 3, 4, 5, 6, 1, 0] rfl⟩
              · skip
                have c_145 : (j18_0 + (sL 1 idr)) = 0 := (lg_cmp_eq _ _).mp c_145
                refine lv_aload_n hx hb d_S_round_148 rfl (lv_at hl 2 rfl) ?_
                refine lv_ldc2 (v := (-9223372036854775808)) hx hb hown (htA _ k_75) d_S_round_149 ?_
                refine va_put (D := (dC, dI)) (ci := 2) (v := .long (-9223372036854775808)) (ty := .long) (C := R_S) (T := F_S) (N := 3) hx hb htA in_S t_S t_S_ok n_S hown hK hP hD hS 0 rfl rfl 0 (by decide) (htA _ k_14) (fun _ h9 => h9) rfl (by decide +kernel) rfl rfl (Nat.le_of_ble_eq_true rfl) d_S_round_152 (fun H locs hP hD hS => ?_)
                have hP : va_P (dC, dI) classes [(a4, .inr (2, [.long (-9223372036854775808), .long 0, .int ex]))] H := hP
                have hD : va_D A [(a4, .inr (2, [.long (-9223372036854775808), .long 0, .int ex]))] := hD
                refine lv_aload_n hx hb d_S_round_155 rfl (lv_at hl 2 rfl) ?_
                refine lv_dup hx hb d_S_round_156 rfl ?_
                refine va_get (D := (dC, dI)) (ci := 2) (v := .int ex) (C := R_S) (T := F_S) (N := 3) hx hb htA in_S hown hK hP 0 rfl rfl 2 (by decide) (htA _ k_16) (fun _ h9 => h9) rfl d_S_round_157 ?_
                refine lv_iconst (v := 1) hx hb d_S_round_160 (by decide) ?_
                refine lv_iadd hx hb d_S_round_161 ?_
                refine va_put (D := (dC, dI)) (ci := 2) (v := .int (ex + 1)) (ty := .int) (C := R_S) (T := F_S) (N := 3) hx hb htA in_S t_S t_S_ok n_S hown hK hP hD hS 0 rfl rfl 2 (by decide) (htA _ k_16) (fun _ h9 => h9) rfl (by decide +kernel) rfl rfl (Nat.le_of_ble_eq_true rfl) d_S_round_162 (fun H locs hP hD hS => ?_)
                have hP : va_P (dC, dI) classes [(a4, .inr (2, [.long (-9223372036854775808), .long 0, .int (ex + 1)]))] H := hP
                have hD : va_D A [(a4, .inr (2, [.long (-9223372036854775808), .long 0, .int (ex + 1)]))] := hD
                exact J165 ((-9223372036854775808), (ex + 1)) H locs ls ⟨by clear hP hD hl hS; (try dsimp only); rw [if_pos c_88, if_pos c_103, if_pos c_145], by clear hP hD hl hS; (try dsimp only); rw [if_pos c_88, if_pos c_103, if_pos c_145], hP.sub [0] rfl, hD.sub [0] (by decide) rfl, hS, lv_sub hl [2, 3, 4, 5, 6, 1, 0] rfl⟩
            · skip
              refine lv_aload_n hx hb d_S_round_106 rfl (lv_at hl 2 rfl) ?_
              refine lv_ldc2 (v := (-9223372036854775808)) hx hb hown (htA _ k_75) d_S_round_107 ?_
              refine va_put (D := (dC, dI)) (ci := 2) (v := .long (-9223372036854775808)) (ty := .long) (C := R_S) (T := F_S) (N := 3) hx hb htA in_S t_S t_S_ok n_S hown hK hP hD hS 0 rfl rfl 0 (by decide) (htA _ k_14) (fun _ h9 => h9) rfl (by decide +kernel) rfl rfl (Nat.le_of_ble_eq_true rfl) d_S_round_110 (fun H locs hP hD hS => ?_)
              have hP : va_P (dC, dI) classes [(a4, .inr (2, [.long (-9223372036854775808), .long 0, .int ex]))] H := hP
              have hD : va_D A [(a4, .inr (2, [.long (-9223372036854775808), .long 0, .int ex]))] := hD
              refine lv_aload_n hx hb d_S_round_113 rfl (lv_at hl 2 rfl) ?_
              refine lv_dup hx hb d_S_round_114 rfl ?_
              refine va_get (D := (dC, dI)) (ci := 2) (v := .int ex) (C := R_S) (T := F_S) (N := 3) hx hb htA in_S hown hK hP 0 rfl rfl 2 (by decide) (htA _ k_16) (fun _ h9 => h9) rfl d_S_round_115 ?_
              refine lv_iload_n hx hb d_S_round_118 rfl (lv_at hl 3 rfl) ?_
              refine lv_bipush (v := 63) hx hb d_S_round_119 (by decide) ?_
              refine lv_isub hx hb d_S_round_121 ?_
              refine lv_iadd hx hb d_S_round_122 ?_
              refine va_put (D := (dC, dI)) (ci := 2) (v := .int (ex + (idr - 63))) (ty := .int) (C := R_S) (T := F_S) (N := 3) hx hb htA in_S t_S t_S_ok n_S hown hK hP hD hS 0 rfl rfl 2 (by decide) (htA _ k_16) (fun _ h9 => h9) rfl (by decide +kernel) rfl rfl (Nat.le_of_ble_eq_true rfl) d_S_round_123 (fun H locs hP hD hS => ?_)
              have hP : va_P (dC, dI) classes [(a4, .inr (2, [.long (-9223372036854775808), .long 0, .int (ex + (idr - 63))]))] H := hP
              have hD : va_D A [(a4, .inr (2, [.long (-9223372036854775808), .long 0, .int (ex + (idr - 63))]))] := hD
              refine lv_goto (tgt := 165) hx hb d_S_round_126 (by decide) ?_
              exact J165 ((-9223372036854775808), (ex + (idr - 63))) H locs ls ⟨by clear hP hD hl hS; (try dsimp only); rw [if_pos c_88, if_neg c_103], by clear hP hD hl hS; (try dsimp only); rw [if_pos c_88, if_neg c_103], hP.sub [0] rfl, hD.sub [0] (by decide) rfl, hS, lv_sub hl [2, 3, 4, 5, 6, 1, 0] rfl⟩
          · skip
            have c_88 : ¬ (g_S_isRoundedAway (g_S_compareDroppedWithHalf hi lo idr) j65_0 ir bn) = true := b2i_z c_88
            refine lv_aload_n hx hb d_S_round_91 rfl (lv_at hl 2 rfl) ?_
            refine lv_lload hx hb d_S_round_92 (lv_at hl 6 rfl) ?_
            refine va_put (D := (dC, dI)) (ci := 2) (v := .long j18_0) (ty := .long) (C := R_S) (T := F_S) (N := 3) hx hb htA in_S t_S t_S_ok n_S hown hK hP hD hS 0 rfl rfl 0 (by decide) (htA _ k_14) (fun _ h9 => h9) rfl (by decide +kernel) rfl rfl (Nat.le_of_ble_eq_true rfl) d_S_round_94 (fun H locs hP hD hS => ?_)
            have hP : va_P (dC, dI) classes [(a4, .inr (2, [.long j18_0, .long 0, .int ex]))] H := hP
            have hD : va_D A [(a4, .inr (2, [.long j18_0, .long 0, .int ex]))] := hD
            refine lv_goto (tgt := 165) hx hb d_S_round_97 (by decide) ?_
            exact J165 (j18_0, ex) H locs ls ⟨by clear hP hD hl hS; (try dsimp only); rw [if_neg c_88], by clear hP hD hl hS; (try dsimp only); rw [if_neg c_88], hP.sub [0] rfl, hD.sub [0] (by decide) rfl, hS, lv_sub hl [2, 3, 4, 5, 6, 1, 0] rfl⟩
      · skip
        refine lv_icmp_ge (tgt := 64) hx hb d_S_round_44 (by decide) (fun c_44 => ?_) (fun c_44 => ?_)
        · skip
          refine lv_iconst (v := 0) hx hb d_S_round_64 (by decide) ?_
          exact J65 (false) H locs ls ⟨by clear hP hD hl hS; (try dsimp only); rw [if_pos c_44], hP.sub [0] rfl, hD.sub [0] (by decide) rfl, hS, lv_sub hl [1, 2, 3, 4, 0] rfl⟩
        · skip
          refine lv_aload_n hx hb d_S_round_47 rfl (lv_at hl 1 rfl) ?_
          refine va_get (D := (dC, dI)) (ci := 2) (v := .long hi) (C := R_S) (T := F_S) (N := 3) hx hb htA in_S hown hK hP 0 rfl rfl 0 (by decide) (htA _ k_14) (fun _ h9 => h9) rfl d_S_round_48 ?_
          refine lv_iload_n hx hb d_S_round_51 rfl (lv_at hl 2 rfl) ?_
          refine lv_lushr (v := (uR hi idr)) hx hb d_S_round_52 rfl ?_
          refine lv_lconst (v := 1) hx hb d_S_round_53 (by decide) ?_
          refine lv_land hx hb d_S_round_54 ?_
          refine lv_lconst (v := 0) hx hb d_S_round_55 (by decide) ?_
          refine W.lcmp hx hb d_S_round_56 ?_
          refine lv_if_eq (tgt := 64) hx hb d_S_round_57 (by decide) (fun c_57 => ?_) (fun c_57 => ?_)
          · skip
            have c_57 : ((uR hi idr) &&& 1) = 0 := (lg_cmp_eq _ _).mp c_57
            refine lv_iconst (v := 0) hx hb d_S_round_64 (by decide) ?_
            exact J65 (false) H locs ls ⟨by clear hP hD hl hS; (try dsimp only); rw [if_neg c_44, if_pos c_57], hP.sub [0] rfl, hD.sub [0] (by decide) rfl, hS, lv_sub hl [1, 2, 3, 4, 0] rfl⟩
          · skip
            have c_57 : ¬ ((uR hi idr) &&& 1) = 0 := fun h9 => c_57 ((lg_cmp_eq _ _).mpr h9)
            refine lv_iconst (v := 1) hx hb d_S_round_60 (by decide) ?_
            refine lv_goto (tgt := 65) hx hb d_S_round_61 (by decide) ?_
            exact J65 (true) H locs ls ⟨by clear hP hD hl hS; (try dsimp only); rw [if_neg c_44, if_neg c_57], hP.sub [0] rfl, hD.sub [0] (by decide) rfl, hS, lv_sub hl [1, 2, 3, 4, 0] rfl⟩
    · skip
      have c_27 : j18_0 = hi := (lg_cmp_eq _ _).mp c_27
      refine lv_aload_n hx hb d_S_round_30 rfl (lv_at hl 1 rfl) ?_
      refine va_get (D := (dC, dI)) (ci := 2) (v := .long lo) (C := R_S) (T := F_S) (N := 3) hx hb htA in_S hown hK hP 0 rfl rfl 1 (by decide) (htA _ k_15) (fun _ h9 => h9) rfl d_S_round_31 ?_
      refine lv_lconst (v := 0) hx hb d_S_round_34 (by decide) ?_
      refine W.lcmp hx hb d_S_round_35 ?_
      refine lv_if_ne (tgt := 41) hx hb d_S_round_36 (by decide) (fun c_36 => ?_) (fun c_36 => ?_)
      · skip
        have c_36 : ¬ lo = 0 := fun h9 => c_36 ((lg_cmp_eq _ _).mpr h9)
        refine lv_iload_n hx hb d_S_round_41 rfl (lv_at hl 2 rfl) ?_
        refine lv_bipush (v := 64) hx hb d_S_round_42 (by decide) ?_
        refine cut_join (X := Bool) 0 0 (fun (x : Bool) (H : Heap) (locs : List Loc) (ls : Array Slot) => (if 64 ≤ idr then false else if ((uR hi idr) &&& 1) = 0 then false else true) = x ∧ va_P (dC, dI) classes [(a4, .inr (2, [.long hi, .long lo, .int ex]))] H ∧ va_D A [(a4, .inr (2, [.long hi, .long lo, .int ex]))] ∧ va_S A s.heap H locs ∧ lv_has ls 8 [(0, .ref a4), (1, .int idr), (2, .int ir), (3, .int (b2i bn)), (4, .long j18_0)]) (fun x ls => F0 m 65 ls [.int (b2i x)]) ?_ (fun J65 => ?_)
        · skip
          rintro j65_0 H locs ls ⟨ej65_0, hP, hD, hS, hl⟩
          have ej65_0 : (if 64 ≤ idr then false else if ((uR hi idr) &&& 1) = 0 then false else true) = j65_0 := ej65_0
          have hP : va_P (dC, dI) classes [(a4, .inr (2, [.long hi, .long lo, .int ex]))] H := hP
          have hD : va_D A [(a4, .inr (2, [.long hi, .long lo, .int ex]))] := hD
          have hl : lv_has ls 8 [(0, .ref a4), (1, .int idr), (2, .int ir), (3, .int (b2i bn)), (4, .long j18_0)] := hl
          refine lv_istore (lv' := [(6, .int (b2i j65_0)), (0, .ref a4), (1, .int idr), (2, .int ir), (3, .int (b2i bn)), (4, .long j18_0)]) hx hb d_S_round_65 hl (by decide) rfl (fun ls hl => ?_)
          refine lv_aload_n hx hb d_S_round_67 rfl (lv_at hl 1 rfl) ?_
          refine lv_iload_n hx hb d_S_round_68 rfl (lv_at hl 2 rfl) ?_
          have hPc := hP.sub (ws' := [(a4, .inr (2, [.long hi, .long lo, .int ex]))]) [0] rfl
          have hDc := hD.sub (ws' := [(a4, .inr (2, [.long hi, .long lo, .int ex]))]) [0] (by decide) rfl
          have hKc := hK.sub (tys' := []) [] rfl
          have hFc := va_free (wc := [(a4, .inr (2, [.long hi, .long lo, .int ex]))]) hD hS hA [0] rfl
          refine cc_i (va_runV (As := [.int idr]) (rest := []) ⟨hx, hb, hml, hown, htA⟩ (c_S_compareDroppedWithHalf l dC dI a4 H.size hi lo ex idr) (cwV 1 htA (gi_V k_77 k_78 k_79 k_36 (gi_code k_76)) rfl rfl rfl (by decide +kernel) ⟨Nat.le_of_ble_eq_true rfl, Nat.le_of_ble_eq_true rfl⟩) (pre_V hnw hPc hKc hDc (ci := 2) (q0 := 0) rfl rfl) rfl rfl hl.1 rfl (lv_room (Nat.le_of_ble_eq_true rfl)) d_S_round_69 ⟨Nat.le_of_ble_eq_true rfl, Nat.le_of_ble_eq_true rfl⟩) hS hFc hP hD [0] [] (wr := []) rfl rfl (by decide) (by decide) (fun H locs hP hD hS => ?_)
          have hP : va_P (dC, dI) classes [(a4, .inr (2, [.long hi, .long lo, .int ex]))] H := hP
          have hD : va_D A [(a4, .inr (2, [.long hi, .long lo, .int ex]))] := hD
          refine lv_iload hx hb d_S_round_72 (lv_at hl 0 rfl) ?_
          refine lv_iload_n hx hb d_S_round_74 rfl (lv_at hl 3 rfl) ?_
          refine lv_iload_n hx hb d_S_round_75 rfl (lv_at hl 4 rfl) ?_
          have hPc := hP.sub (ws' := []) [] rfl
          have hDc := hD.sub (ws' := []) [] (by decide) rfl
          have hKc := hK.sub (tys' := []) [] rfl
          have hFc := va_free (wc := []) hD hS hA [] rfl
          refine cc_i (va_runS (As := [.int (g_S_compareDroppedWithHalf hi lo idr), .int (b2i j65_0), .int ir, .int (b2i bn)]) (rest := []) ⟨hx, hb, hml, hown, htA⟩ (c_S_isRoundedAway l dC dI H.size (g_S_compareDroppedWithHalf hi lo idr) j65_0 ir bn) (va_cwS 4 htA (gi_S k_80 k_81 k_36 (gi_code k_74)) rfl rfl rfl (by decide +kernel) ⟨Nat.le_of_ble_eq_true rfl, Nat.le_of_ble_eq_true rfl⟩) (pre_S hnw hPc hKc hDc) rfl rfl hl.1 rfl (lv_room (Nat.le_of_ble_eq_true rfl)) d_S_round_76 ⟨Nat.le_of_ble_eq_true rfl, Nat.le_of_ble_eq_true rfl⟩) hS hFc hP hD [] [0] (wr := [(a4, .inr (2, [.long hi, .long lo, .int ex]))]) rfl rfl (by decide) (by decide) (fun H locs hP hD hS => ?_)
          have hP : va_P (dC, dI) classes [(a4, .inr (2, [.long hi, .long lo, .int ex]))] H := hP
          have hD : va_D A [(a4, .inr (2, [.long hi, .long lo, .int ex]))] := hD
          refine lv_istore (lv' := [(7, .int (b2i (g_S_isRoundedAway (g_S_compareDroppedWithHalf hi lo idr) j65_0 ir bn))), (6, .int (b2i j65_0)), (0, .ref a4), (1, .int idr), (2, .int ir), (3, .int (b2i bn)), (4, .long j18_0)]) hx hb d_S_round_79 hl (by decide) rfl (fun ls hl => ?_)
          refine lv_aload_n hx hb d_S_round_81 rfl (lv_at hl 2 rfl) ?_
          refine lv_lconst (v := 0) hx hb d_S_round_82 (by decide) ?_
          refine va_put (D := (dC, dI)) (ci := 2) (v := .long 0) (ty := .long) (C := R_S) (T := F_S) (N := 3) hx hb htA in_S t_S t_S_ok n_S hown hK hP hD hS 0 rfl rfl 1 (by decide) (htA _ k_15) (fun _ h9 => h9) rfl (by decide +kernel) rfl rfl (Nat.le_of_ble_eq_true rfl) d_S_round_83 (fun H locs hP hD hS => ?_)
          have hP : va_P (dC, dI) classes [(a4, .inr (2, [.long hi, .long 0, .int ex]))] H := hP
          have hD : va_D A [(a4, .inr (2, [.long hi, .long 0, .int ex]))] := hD
          refine lv_iload hx hb d_S_round_86 (lv_at hl 0 rfl) ?_
          refine cut_join (X := Int64 × Int32) 0 0 (fun (x : Int64 × Int32) (H : Heap) (locs : List Loc) (ls : Array Slot) => (if (g_S_isRoundedAway (g_S_compareDroppedWithHalf hi lo idr) j65_0 ir bn) = true then if idr < 64 then if (j18_0 + (sL 1 idr)) = 0 then (-9223372036854775808) else (j18_0 + (sL 1 idr)) else (-9223372036854775808) else j18_0) = x.1 ∧ (if (g_S_isRoundedAway (g_S_compareDroppedWithHalf hi lo idr) j65_0 ir bn) = true then if idr < 64 then if (j18_0 + (sL 1 idr)) = 0 then (ex + 1) else ex else (ex + (idr - 63)) else ex) = x.2 ∧ va_P (dC, dI) classes [(a4, .inr (2, [.long x.1, .long 0, .int x.2]))] H ∧ va_D A [(a4, .inr (2, [.long x.1, .long 0, .int x.2]))] ∧ va_S A s.heap H locs ∧ lv_has ls 8 [(0, .ref a4), (1, .int idr), (2, .int ir), (3, .int (b2i bn)), (4, .long j18_0), (6, .int (b2i j65_0)), (7, .int (b2i (g_S_isRoundedAway (g_S_compareDroppedWithHalf hi lo idr) j65_0 ir bn)))]) (fun x ls => F0 m 165 ls []) ?_ (fun J165 => ?_)
          · skip
            rintro ⟨j165_0, j165_1⟩ H locs ls ⟨ej165_0, ej165_1, hP, hD, hS, hl⟩
            have ej165_0 : (if (g_S_isRoundedAway (g_S_compareDroppedWithHalf hi lo idr) j65_0 ir bn) = true then if idr < 64 then if (j18_0 + (sL 1 idr)) = 0 then (-9223372036854775808) else (j18_0 + (sL 1 idr)) else (-9223372036854775808) else j18_0) = j165_0 := ej165_0
            have ej165_1 : (if (g_S_isRoundedAway (g_S_compareDroppedWithHalf hi lo idr) j65_0 ir bn) = true then if idr < 64 then if (j18_0 + (sL 1 idr)) = 0 then (ex + 1) else ex else (ex + (idr - 63)) else ex) = j165_1 := ej165_1
            have hP : va_P (dC, dI) classes [(a4, .inr (2, [.long j165_0, .long 0, .int j165_1]))] H := hP
            have hD : va_D A [(a4, .inr (2, [.long j165_0, .long 0, .int j165_1]))] := hD
            have hl : lv_has ls 8 [(0, .ref a4), (1, .int idr), (2, .int ir), (3, .int (b2i bn)), (4, .long j18_0), (6, .int (b2i j65_0)), (7, .int (b2i (g_S_isRoundedAway (g_S_compareDroppedWithHalf hi lo idr) j65_0 ir bn)))] := hl
            refine lv_iconst (v := 1) hx hb d_S_round_165 (by decide) ?_
            have hE : g_S_round hi lo ex idr ir bn = (true, j165_0, 0, j165_1) := by clear hP hD hl hS; subst ej165_1; subst ej165_0; subst ej65_0; subst ej18_0; unfold g_S_round; (try dsimp only); rw [if_pos c_27, if_neg c_36]
            have hP9 : va_P (dC, dI) classes [(a4, .inr (2, [.long ((g_S_round hi lo ex idr ir bn).2.1), .long ((g_S_round hi lo ex idr ir bn).2.2.1), .int ((g_S_round hi lo ex idr ir bn).2.2.2)]))] H := by rw [hE]; exact hP.sub [0] rfl
            have hD9 : va_D A [(a4, .inr (2, [.long ((g_S_round hi lo ex idr ir bn).2.1), .long ((g_S_round hi lo ex idr ir bn).2.2.1), .int ((g_S_round hi lo ex idr ir bn).2.2.2)]))] := by rw [hE]; exact hD.sub [0] (by decide) rfl
            exact W.zret (v := 1) hx hb hr (by first | exact nar_b2i _ | rfl) (fun t ht hW => ⟨⟨1, (), rfl, by rw [hE]; rfl, by rw [ht]; exact hP9, hD9⟩, hS.F ht⟩) hS.2.2 d_S_round_166
          · skip
            refine lv_if_ne (tgt := 100) hx hb d_S_round_88 (by decide) (fun c_88 => ?_) (fun c_88 => ?_)
            · skip
              have c_88 : (g_S_isRoundedAway (g_S_compareDroppedWithHalf hi lo idr) j65_0 ir bn) = true := b2i_nz c_88
              refine lv_iload_n hx hb d_S_round_100 rfl (lv_at hl 3 rfl) ?_
              refine lv_bipush (v := 64) hx hb d_S_round_101 (by decide) ?_
              refine lv_icmp_lt (tgt := 129) hx hb d_S_round_103 (by decide) (fun c_103 => ?_) (fun c_103 => ?_)
              · skip
                refine lv_aload_n hx hb d_S_round_129 rfl (lv_at hl 2 rfl) ?_
                refine lv_lload hx hb d_S_round_130 (lv_at hl 6 rfl) ?_
                refine lv_lconst (v := 1) hx hb d_S_round_132 (by decide) ?_
                refine lv_iload_n hx hb d_S_round_133 rfl (lv_at hl 3 rfl) ?_
                refine lv_lshl (v := (sL 1 idr)) hx hb d_S_round_134 rfl ?_
                refine lv_ladd hx hb d_S_round_135 ?_
                refine va_put (D := (dC, dI)) (ci := 2) (v := .long (j18_0 + (sL 1 idr))) (ty := .long) (C := R_S) (T := F_S) (N := 3) hx hb htA in_S t_S t_S_ok n_S hown hK hP hD hS 0 rfl rfl 0 (by decide) (htA _ k_14) (fun _ h9 => h9) rfl (by decide +kernel) rfl rfl (Nat.le_of_ble_eq_true rfl) d_S_round_136 (fun H locs hP hD hS => ?_)
                have hP : va_P (dC, dI) classes [(a4, .inr (2, [.long (j18_0 + (sL 1 idr)), .long 0, .int ex]))] H := hP
                have hD : va_D A [(a4, .inr (2, [.long (j18_0 + (sL 1 idr)), .long 0, .int ex]))] := hD
                refine lv_aload_n hx hb d_S_round_139 rfl (lv_at hl 2 rfl) ?_
                refine va_get (D := (dC, dI)) (ci := 2) (v := .long (j18_0 + (sL 1 idr))) (C := R_S) (T := F_S) (N := 3) hx hb htA in_S hown hK hP 0 rfl rfl 0 (by decide) (htA _ k_14) (fun _ h9 => h9) rfl d_S_round_140 ?_
                refine lv_lconst (v := 0) hx hb d_S_round_143 (by decide) ?_
                refine W.lcmp hx hb d_S_round_144 ?_
                refine lv_if_ne (tgt := 165) hx hb d_S_round_145 (by decide) (fun c_145 => ?_) (fun c_145 => ?_)
                · skip
                  have c_145 : ¬ (j18_0 + (sL 1 idr)) = 0 := fun h9 => c_145 ((lg_cmp_eq _ _).mpr h9)
                  exact J165 ((j18_0 + (sL 1 idr)), ex) H locs ls ⟨by clear hP hD hl hS; (try dsimp only); rw [if_pos c_88, if_pos c_103, if_neg c_145], by clear hP hD hl hS; (try dsimp only); rw [if_pos c_88, if_pos c_103, if_neg c_145], hP.sub [0] rfl, hD.sub [0] (by decide) rfl, hS, lv_sub hl [2, 3, 4, 5, 6, 1, 0] rfl⟩
                · skip
                  have c_145 : (j18_0 + (sL 1 idr)) = 0 := (lg_cmp_eq _ _).mp c_145
                  refine lv_aload_n hx hb d_S_round_148 rfl (lv_at hl 2 rfl) ?_
                  refine lv_ldc2 (v := (-9223372036854775808)) hx hb hown (htA _ k_75) d_S_round_149 ?_
                  refine va_put (D := (dC, dI)) (ci := 2) (v := .long (-9223372036854775808)) (ty := .long) (C := R_S) (T := F_S) (N := 3) hx hb htA in_S t_S t_S_ok n_S hown hK hP hD hS 0 rfl rfl 0 (by decide) (htA _ k_14) (fun _ h9 => h9) rfl (by decide +kernel) rfl rfl (Nat.le_of_ble_eq_true rfl) d_S_round_152 (fun H locs hP hD hS => ?_)
                  have hP : va_P (dC, dI) classes [(a4, .inr (2, [.long (-9223372036854775808), .long 0, .int ex]))] H := hP
                  have hD : va_D A [(a4, .inr (2, [.long (-9223372036854775808), .long 0, .int ex]))] := hD
                  refine lv_aload_n hx hb d_S_round_155 rfl (lv_at hl 2 rfl) ?_
                  refine lv_dup hx hb d_S_round_156 rfl ?_
                  refine va_get (D := (dC, dI)) (ci := 2) (v := .int ex) (C := R_S) (T := F_S) (N := 3) hx hb htA in_S hown hK hP 0 rfl rfl 2 (by decide) (htA _ k_16) (fun _ h9 => h9) rfl d_S_round_157 ?_
                  refine lv_iconst (v := 1) hx hb d_S_round_160 (by decide) ?_
                  refine lv_iadd hx hb d_S_round_161 ?_
                  refine va_put (D := (dC, dI)) (ci := 2) (v := .int (ex + 1)) (ty := .int) (C := R_S) (T := F_S) (N := 3) hx hb htA in_S t_S t_S_ok n_S hown hK hP hD hS 0 rfl rfl 2 (by decide) (htA _ k_16) (fun _ h9 => h9) rfl (by decide +kernel) rfl rfl (Nat.le_of_ble_eq_true rfl) d_S_round_162 (fun H locs hP hD hS => ?_)
                  have hP : va_P (dC, dI) classes [(a4, .inr (2, [.long (-9223372036854775808), .long 0, .int (ex + 1)]))] H := hP
                  have hD : va_D A [(a4, .inr (2, [.long (-9223372036854775808), .long 0, .int (ex + 1)]))] := hD
                  exact J165 ((-9223372036854775808), (ex + 1)) H locs ls ⟨by clear hP hD hl hS; (try dsimp only); rw [if_pos c_88, if_pos c_103, if_pos c_145], by clear hP hD hl hS; (try dsimp only); rw [if_pos c_88, if_pos c_103, if_pos c_145], hP.sub [0] rfl, hD.sub [0] (by decide) rfl, hS, lv_sub hl [2, 3, 4, 5, 6, 1, 0] rfl⟩
              · skip
                refine lv_aload_n hx hb d_S_round_106 rfl (lv_at hl 2 rfl) ?_
                refine lv_ldc2 (v := (-9223372036854775808)) hx hb hown (htA _ k_75) d_S_round_107 ?_
                refine va_put (D := (dC, dI)) (ci := 2) (v := .long (-9223372036854775808)) (ty := .long) (C := R_S) (T := F_S) (N := 3) hx hb htA in_S t_S t_S_ok n_S hown hK hP hD hS 0 rfl rfl 0 (by decide) (htA _ k_14) (fun _ h9 => h9) rfl (by decide +kernel) rfl rfl (Nat.le_of_ble_eq_true rfl) d_S_round_110 (fun H locs hP hD hS => ?_)
                have hP : va_P (dC, dI) classes [(a4, .inr (2, [.long (-9223372036854775808), .long 0, .int ex]))] H := hP
                have hD : va_D A [(a4, .inr (2, [.long (-9223372036854775808), .long 0, .int ex]))] := hD
                refine lv_aload_n hx hb d_S_round_113 rfl (lv_at hl 2 rfl) ?_
                refine lv_dup hx hb d_S_round_114 rfl ?_
                refine va_get (D := (dC, dI)) (ci := 2) (v := .int ex) (C := R_S) (T := F_S) (N := 3) hx hb htA in_S hown hK hP 0 rfl rfl 2 (by decide) (htA _ k_16) (fun _ h9 => h9) rfl d_S_round_115 ?_
                refine lv_iload_n hx hb d_S_round_118 rfl (lv_at hl 3 rfl) ?_
                refine lv_bipush (v := 63) hx hb d_S_round_119 (by decide) ?_
                refine lv_isub hx hb d_S_round_121 ?_
                refine lv_iadd hx hb d_S_round_122 ?_
                refine va_put (D := (dC, dI)) (ci := 2) (v := .int (ex + (idr - 63))) (ty := .int) (C := R_S) (T := F_S) (N := 3) hx hb htA in_S t_S t_S_ok n_S hown hK hP hD hS 0 rfl rfl 2 (by decide) (htA _ k_16) (fun _ h9 => h9) rfl (by decide +kernel) rfl rfl (Nat.le_of_ble_eq_true rfl) d_S_round_123 (fun H locs hP hD hS => ?_)
                have hP : va_P (dC, dI) classes [(a4, .inr (2, [.long (-9223372036854775808), .long 0, .int (ex + (idr - 63))]))] H := hP
                have hD : va_D A [(a4, .inr (2, [.long (-9223372036854775808), .long 0, .int (ex + (idr - 63))]))] := hD
                refine lv_goto (tgt := 165) hx hb d_S_round_126 (by decide) ?_
                exact J165 ((-9223372036854775808), (ex + (idr - 63))) H locs ls ⟨by clear hP hD hl hS; (try dsimp only); rw [if_pos c_88, if_neg c_103], by clear hP hD hl hS; (try dsimp only); rw [if_pos c_88, if_neg c_103], hP.sub [0] rfl, hD.sub [0] (by decide) rfl, hS, lv_sub hl [2, 3, 4, 5, 6, 1, 0] rfl⟩
            · skip
              have c_88 : ¬ (g_S_isRoundedAway (g_S_compareDroppedWithHalf hi lo idr) j65_0 ir bn) = true := b2i_z c_88
              refine lv_aload_n hx hb d_S_round_91 rfl (lv_at hl 2 rfl) ?_
              refine lv_lload hx hb d_S_round_92 (lv_at hl 6 rfl) ?_
              refine va_put (D := (dC, dI)) (ci := 2) (v := .long j18_0) (ty := .long) (C := R_S) (T := F_S) (N := 3) hx hb htA in_S t_S t_S_ok n_S hown hK hP hD hS 0 rfl rfl 0 (by decide) (htA _ k_14) (fun _ h9 => h9) rfl (by decide +kernel) rfl rfl (Nat.le_of_ble_eq_true rfl) d_S_round_94 (fun H locs hP hD hS => ?_)
              have hP : va_P (dC, dI) classes [(a4, .inr (2, [.long j18_0, .long 0, .int ex]))] H := hP
              have hD : va_D A [(a4, .inr (2, [.long j18_0, .long 0, .int ex]))] := hD
              refine lv_goto (tgt := 165) hx hb d_S_round_97 (by decide) ?_
              exact J165 (j18_0, ex) H locs ls ⟨by clear hP hD hl hS; (try dsimp only); rw [if_neg c_88], by clear hP hD hl hS; (try dsimp only); rw [if_neg c_88], hP.sub [0] rfl, hD.sub [0] (by decide) rfl, hS, lv_sub hl [2, 3, 4, 5, 6, 1, 0] rfl⟩
        · skip
          refine lv_icmp_ge (tgt := 64) hx hb d_S_round_44 (by decide) (fun c_44 => ?_) (fun c_44 => ?_)
          · skip
            refine lv_iconst (v := 0) hx hb d_S_round_64 (by decide) ?_
            exact J65 (false) H locs ls ⟨by clear hP hD hl hS; (try dsimp only); rw [if_pos c_44], hP.sub [0] rfl, hD.sub [0] (by decide) rfl, hS, lv_sub hl [1, 2, 3, 4, 0] rfl⟩
          · skip
            refine lv_aload_n hx hb d_S_round_47 rfl (lv_at hl 1 rfl) ?_
            refine va_get (D := (dC, dI)) (ci := 2) (v := .long hi) (C := R_S) (T := F_S) (N := 3) hx hb htA in_S hown hK hP 0 rfl rfl 0 (by decide) (htA _ k_14) (fun _ h9 => h9) rfl d_S_round_48 ?_
            refine lv_iload_n hx hb d_S_round_51 rfl (lv_at hl 2 rfl) ?_
            refine lv_lushr (v := (uR hi idr)) hx hb d_S_round_52 rfl ?_
            refine lv_lconst (v := 1) hx hb d_S_round_53 (by decide) ?_
            refine lv_land hx hb d_S_round_54 ?_
            refine lv_lconst (v := 0) hx hb d_S_round_55 (by decide) ?_
            refine W.lcmp hx hb d_S_round_56 ?_
            refine lv_if_eq (tgt := 64) hx hb d_S_round_57 (by decide) (fun c_57 => ?_) (fun c_57 => ?_)
            · skip
              have c_57 : ((uR hi idr) &&& 1) = 0 := (lg_cmp_eq _ _).mp c_57
              refine lv_iconst (v := 0) hx hb d_S_round_64 (by decide) ?_
              exact J65 (false) H locs ls ⟨by clear hP hD hl hS; (try dsimp only); rw [if_neg c_44, if_pos c_57], hP.sub [0] rfl, hD.sub [0] (by decide) rfl, hS, lv_sub hl [1, 2, 3, 4, 0] rfl⟩
            · skip
              have c_57 : ¬ ((uR hi idr) &&& 1) = 0 := fun h9 => c_57 ((lg_cmp_eq _ _).mpr h9)
              refine lv_iconst (v := 1) hx hb d_S_round_60 (by decide) ?_
              refine lv_goto (tgt := 65) hx hb d_S_round_61 (by decide) ?_
              exact J65 (true) H locs ls ⟨by clear hP hD hl hS; (try dsimp only); rw [if_neg c_44, if_neg c_57], hP.sub [0] rfl, hD.sub [0] (by decide) rfl, hS, lv_sub hl [1, 2, 3, 4, 0] rfl⟩
      · skip
        have c_36 : lo = 0 := (lg_cmp_eq _ _).mp c_36
        refine lv_iconst (v := 0) hx hb d_S_round_39 (by decide) ?_
        have hE : g_S_round hi lo ex idr ir bn = (false, hi, lo, ex) := by clear hP hD hl hS; subst ej18_0; unfold g_S_round; (try dsimp only); rw [if_pos c_27, if_pos c_36]
        have hP9 : va_P (dC, dI) classes [(a4, .inr (2, [.long ((g_S_round hi lo ex idr ir bn).2.1), .long ((g_S_round hi lo ex idr ir bn).2.2.1), .int ((g_S_round hi lo ex idr ir bn).2.2.2)]))] H := by rw [hE]; exact hP.sub [0] rfl
        have hD9 : va_D A [(a4, .inr (2, [.long ((g_S_round hi lo ex idr ir bn).2.1), .long ((g_S_round hi lo ex idr ir bn).2.2.1), .int ((g_S_round hi lo ex idr ir bn).2.2.2)]))] := by rw [hE]; exact hD.sub [0] (by decide) rfl
        exact W.zret (v := 0) hx hb hr (by first | exact nar_b2i _ | rfl) (fun t ht hW => ⟨⟨0, (), rfl, by rw [hE]; rfl, by rw [ht]; exact hP9, hD9⟩, hS.F ht⟩) hS.2.2 d_S_round_40
  · skip
    refine lv_icmp_ge (tgt := 17) hx hb d_S_round_3 (by decide) (fun c_3 => ?_) (fun c_3 => ?_)
    · skip
      refine lv_lconst (v := 0) hx hb d_S_round_17 (by decide) ?_
      exact J18 (0) H locs ls ⟨by clear hP hD hl hS; (try dsimp only); rw [if_pos c_3], hP.sub [0] rfl, hD.sub [0] (by decide) rfl, hS, lv_sub hl [0, 1, 2, 3] rfl⟩
    · skip
      refine lv_aload_n hx hb d_S_round_6 rfl (lv_at hl 0 rfl) ?_
      refine va_get (D := (dC, dI)) (ci := 2) (v := .long hi) (C := R_S) (T := F_S) (N := 3) hx hb htA in_S hown hK hP 0 rfl rfl 0 (by decide) (htA _ k_14) (fun _ h9 => h9) rfl d_S_round_7 ?_
      refine lv_iload_n hx hb d_S_round_10 rfl (lv_at hl 1 rfl) ?_
      refine lv_lushr (v := (uR hi idr)) hx hb d_S_round_11 rfl ?_
      refine lv_iload_n hx hb d_S_round_12 rfl (lv_at hl 1 rfl) ?_
      refine lv_lshl (v := (sL (uR hi idr) idr)) hx hb d_S_round_13 rfl ?_
      refine lv_goto (tgt := 18) hx hb d_S_round_14 (by decide) ?_
      exact J18 ((sL (uR hi idr) idr)) H locs ls ⟨by clear hP hD hl hS; (try dsimp only); rw [if_neg c_3], hP.sub [0] rfl, hD.sub [0] (by decide) rfl, hS, lv_sub hl [0, 1, 2, 3] rfl⟩
