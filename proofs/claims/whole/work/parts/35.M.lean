theorem d_M_init_0 : decode b_M_init 0 = .ok (.aload_n 0, 1) := by decide +kernel
theorem d_M_init_1 : decode b_M_init 1 = .ok (.invokespecial 1, 3) := by decide +kernel
theorem d_M_init_4 : decode b_M_init 4 = .ok (.aload_n 0, 1) := by decide +kernel
theorem d_M_init_5 : decode b_M_init 5 = .ok (.sipush 1023, 3) := by decide +kernel
theorem d_M_init_8 : decode b_M_init 8 = .ok (.putfield 7, 3) := by decide +kernel
theorem d_M_init_11 : decode b_M_init 11 = .ok (.aload_n 0, 1) := by decide +kernel
theorem d_M_init_12 : decode b_M_init 12 = .ok (.bipush 8, 2) := by decide +kernel
theorem d_M_init_14 : decode b_M_init 14 = .ok (.newarray .int, 2) := by decide +kernel
theorem d_M_init_16 : decode b_M_init 16 = .ok (.putfield 13, 3) := by decide +kernel
theorem d_M_init_19 : decode b_M_init 19 = .ok (.aload_n 0, 1) := by decide +kernel
theorem d_M_init_20 : decode b_M_init 20 = .ok (.bipush 8, 2) := by decide +kernel
theorem d_M_init_22 : decode b_M_init 22 = .ok (.newarray .long, 2) := by decide +kernel
theorem d_M_init_24 : decode b_M_init 24 = .ok (.putfield 17, 3) := by decide +kernel
theorem d_M_init_27 : decode b_M_init 27 = .ok (.aload_n 0, 1) := by decide +kernel
theorem d_M_init_28 : decode b_M_init 28 = .ok (.iconst 2, 1) := by decide +kernel
theorem d_M_init_29 : decode b_M_init 29 = .ok (.newarray .boolean, 2) := by decide +kernel
theorem d_M_init_31 : decode b_M_init 31 = .ok (.putfield 21, 3) := by decide +kernel
theorem d_M_init_34 : decode b_M_init 34 = .ok (.aload_n 0, 1) := by decide +kernel
theorem d_M_init_35 : decode b_M_init 35 = .ok (.iconst 2, 1) := by decide +kernel
theorem d_M_init_36 : decode b_M_init 36 = .ok (.newarray .int, 2) := by decide +kernel
theorem d_M_init_38 : decode b_M_init 38 = .ok (.putfield 25, 3) := by decide +kernel
theorem d_M_init_41 : decode b_M_init 41 = .ok (.aload_n 0, 1) := by decide +kernel
theorem d_M_init_42 : decode b_M_init 42 = .ok (.iconst 2, 1) := by decide +kernel
theorem d_M_init_43 : decode b_M_init 43 = .ok (.newarray .long, 2) := by decide +kernel
theorem d_M_init_45 : decode b_M_init 45 = .ok (.putfield 28, 3) := by decide +kernel
theorem d_M_init_48 : decode b_M_init 48 = .ok (.aload_n 0, 1) := by decide +kernel
theorem d_M_init_49 : decode b_M_init 49 = .ok (.ldc 31, 2) := by decide +kernel
theorem d_M_init_51 : decode b_M_init 51 = .ok (.newarray .boolean, 2) := by decide +kernel
theorem d_M_init_53 : decode b_M_init 53 = .ok (.putfield 32, 3) := by decide +kernel
theorem d_M_init_56 : decode b_M_init 56 = .ok (.return_, 1) := by decide +kernel
set_option maxHeartbeats 4000000 in
set_option maxRecDepth 100000 in
theorem c_M_init (l : Launch) (dC : Nat → ClassId) (dI : Nat → Nat → Nat) (bM : Nat) (sz : Nat) (cd : Int32) (wd : Int32) (al : Int32) (sz1 : Int32) (un : Int32) (mo : Bool) (tl : Int32) (sp : Bool) (tpo : Int32) (fro : Int64) (ly : Bool) : Met l y_M_init w_M_init ({ frames := 1, cells := 6, slots := 33022, locals := 12 }) (cPc (dC, dI) [] [.ref bM] [(bM, .inr (3, [.int cd, .int wd, .null, .null, .int al, .null, .null, .null, .null, .int sz1, .int un, .int (b2i mo), .int tl, .int (b2i sp), .int tpo, .long fro, .int (b2i ly)]))] sz) (va_Qv (fun (_ : Nat × Nat × Nat × Nat × Nat × Nat × ClassId × ClassId × ClassId × ClassId × ClassId × ClassId) => True) (fun (u : Nat × Nat × Nat × Nat × Nat × Nat × ClassId × ClassId × ClassId × ClassId × ClassId × ClassId) t => va_P (dC, dI) classes [(bM, .inr (3, [.int cd, .int 1023, .ref u.1, .ref u.2.1, .int al, .ref u.2.2.1, .ref u.2.2.2.1, .ref u.2.2.2.2.1, .ref u.2.2.2.2.2.1, .int sz1, .int un, .int (b2i mo), .int tl, .int (b2i sp), .int tpo, .long fro, .int (b2i ly)])), (u.1, .inl (u.2.2.2.2.2.2.1, 8, .inl (fun _ => 0))), (u.2.1, .inl (u.2.2.2.2.2.2.2.1, 8, .inr (.inl (fun _ => 0)))), (u.2.2.1, .inl (u.2.2.2.2.2.2.2.2.1, 2, .inl (fun k => b2i ((fun _ => false) k)))), (u.2.2.2.1, .inl (u.2.2.2.2.2.2.2.2.2.1, 2, .inl (fun _ => 0))), (u.2.2.2.2.1, .inl (u.2.2.2.2.2.2.2.2.2.2.1, 2, .inr (.inl (fun _ => 0)))), (u.2.2.2.2.2.1, .inl (u.2.2.2.2.2.2.2.2.2.2.2, 33000, .inl (fun k => b2i ((fun _ => false) k))))] t.heap ∧ va_K (dC, dI) classes [(u.2.2.2.2.2.2.1, .int), (u.2.2.2.2.2.2.2.1, .long), (u.2.2.2.2.2.2.2.2.1, .boolean), (u.2.2.2.2.2.2.2.2.2.1, .int), (u.2.2.2.2.2.2.2.2.2.2.1, .long), (u.2.2.2.2.2.2.2.2.2.2.2, .boolean)] t ∧ va_D (va_A [(bM, .inr (3, [.int cd, .int wd, .null, .null, .int al, .null, .null, .null, .null, .int sz1, .int un, .int (b2i mo), .int tl, .int (b2i sp), .int tpo, .long fro, .int (b2i ly)]))] sz) [(bM, .inr (3, [.int cd, .int 1023, .ref u.1, .ref u.2.1, .int al, .ref u.2.2.1, .ref u.2.2.2.1, .ref u.2.2.2.2.1, .ref u.2.2.2.2.2.1, .int sz1, .int un, .int (b2i mo), .int tl, .int (b2i sp), .int tpo, .long fro, .int (b2i ly)])), (u.1, .inl (u.2.2.2.2.2.2.1, 8, .inl (fun _ => 0))), (u.2.1, .inl (u.2.2.2.2.2.2.2.1, 8, .inr (.inl (fun _ => 0)))), (u.2.2.1, .inl (u.2.2.2.2.2.2.2.2.1, 2, .inl (fun k => b2i ((fun _ => false) k)))), (u.2.2.2.1, .inl (u.2.2.2.2.2.2.2.2.2.1, 2, .inl (fun _ => 0))), (u.2.2.2.2.1, .inl (u.2.2.2.2.2.2.2.2.2.2.1, 2, .inr (.inl (fun _ => 0)))), (u.2.2.2.2.2.1, .inl (u.2.2.2.2.2.2.2.2.2.2.2, 33000, .inl (fun k => b2i ((fun _ => false) k))))]) (va_A [(bM, .inr (3, [.int cd, .int wd, .null, .null, .int al, .null, .null, .null, .null, .int sz1, .int un, .int (b2i mo), .int tl, .int (b2i sp), .int tpo, .long fro, .int (b2i ly)]))] sz)) 6 33022 (va_A [(bM, .inr (3, [.int cd, .int wd, .null, .null, .int al, .null, .null, .null, .null, .int sz1, .int un, .int (b2i mo), .int tl, .int (b2i sp), .int tpo, .long fro, .int (b2i ly)]))] sz) := by
  refine Met.ofW (cc := b_M_init) (maxL := 1) (ret := none) (by decide) rfl ?_
  intro p e s m args below meth c s₁ B hml hv
  obtain ⟨rfl, hsz, hP, hK, hD0, hnw⟩ := hv
  have hx := B.exec
  have hb := B.bytes
  have hr := B.returns
  have hts := atoms_spec (ws := w_M_init) B.pre
  have htA : ∀ w ∈ wAll, w.before _ s = true := fun w h => hts w (List.mem_cons_of_mem _ h)
  have hown : s.vm.findClass R_M = some m.cls := findClass_of_methodNamed B.named
  have hlocks := B.notSynchronized
  have hin : meth.name = "<init>" := (name_of_methodNamed B.named B.method).1
  subst hsz
  have hD := hD0.self (sz := s.heap.size)
  generalize hAe : va_A [(bM, .inr (3, [.int cd, .int wd, .null, .null, .int al, .null, .null, .null, .null, .int sz1, .int un, .int (b2i mo), .int tl, .int (b2i sp), .int tpo, .long fro, .int (b2i ly)]))] s.heap.size = A at hD ⊢
  have hA : ∀ q : Nat, s.heap.size ≤ q → A q := fun q h => by rw [← hAe]; exact Or.inr h
  have hS : va_S A s.heap s.heap [] := va_S.rf
  have hP : va_P (dC, dI) classes [(bM, .inr (3, [.int cd, .int wd, .null, .null, .int al, .null, .null, .null, .null, .int sz1, .int un, .int (b2i mo), .int tl, .int (b2i sp), .int tpo, .long fro, .int (b2i ly)]))] s.heap := hP
  obtain ⟨H, eH⟩ : ∃ z, z = s.heap := ⟨_, rfl⟩
  rw [← eH] at hP
  have hS : va_S A s.heap H [] := by rw [eH]; exact hS
  rw [← eH]
  generalize ([] : List Loc) = locs at hS ⊢
  have hl := lv_entry ([.ref bM]) (n := 1) (Nat.le_of_ble_eq_true rfl)
  rw [lg_entry_eq]
  generalize (lg_sl ([.ref bM]) ++ List.replicate (1 - (lg_sl ([.ref bM])).length) Slot.unset).toArray = ls at hl ⊢
  have hl : lv_has ls 1 [(0, .ref bM)] := hl
  refine lv_aload_n hx hb d_M_init_0 rfl (lv_at hl 0 rfl) ?_
  refine W.objInit hx hb hown (htA _ k_379) (htA _ k_7) (htA _ k_8) rfl (by rw [hml]; exact hl.1) rfl d_M_init_1 (Nat.le_of_ble_eq_true rfl) (Nat.le_of_ble_eq_true rfl) ?_
  refine W.eq (g2 := F0 m 4 ls []) rfl ?_
  refine lv_aload_n hx hb d_M_init_4 rfl (lv_at hl 0 rfl) ?_
  refine lv_sipush (v := 1023) hx hb d_M_init_5 (by decide) ?_
  refine va_put (D := (dC, dI)) (ci := 3) (v := .int 1023) (ty := .int) (C := R_M) (T := F_M) (N := 17) hx hb htA in_M t_M t_M_ok n_M hown hK hP hD hS 0 rfl rfl 1 (by decide) (htA _ k_244) (fun _ h9 => h9) rfl (by decide +kernel) rfl rfl (Nat.le_of_ble_eq_true rfl) d_M_init_8 (fun H locs hP hD hS => ?_)
  have hP : va_P (dC, dI) classes [(bM, .inr (3, [.int cd, .int 1023, .null, .null, .int al, .null, .null, .null, .null, .int sz1, .int un, .int (b2i mo), .int tl, .int (b2i sp), .int tpo, .long fro, .int (b2i ly)]))] H := hP
  have hD : va_D A [(bM, .inr (3, [.int cd, .int 1023, .null, .null, .int al, .null, .null, .null, .null, .int sz1, .int un, .int (b2i mo), .int tl, .int (b2i sp), .int tpo, .long fro, .int (b2i ly)]))] := hD
  refine lv_aload_n hx hb d_M_init_11 rfl (lv_at hl 0 rfl) ?_
  refine lv_bipush (v := 8) hx hb d_M_init_12 (by decide) ?_
  refine va_newa (atype := .int) (ty := .int) (a0 := (8, .inl (fun _ => 0))) (N' := 8) hx hb (htA _ k_228) rfl hK hP hD hS hA (fun _ => rfl) (by decide) (by decide) (by decide) (Nat.le_of_ble_eq_true rfl) (Nat.le_of_ble_eq_true rfl) d_M_init_14 (fun q14 ca14 H hK hP hD hS => ?_)
  have hK : va_K (dC, dI) classes [(ca14, .int)] s := hK
  have hP : va_P (dC, dI) classes [(bM, .inr (3, [.int cd, .int 1023, .null, .null, .int al, .null, .null, .null, .null, .int sz1, .int un, .int (b2i mo), .int tl, .int (b2i sp), .int tpo, .long fro, .int (b2i ly)])), (q14, .inl (ca14, 8, .inl (fun _ => 0)))] H := hP
  have hD : va_D A [(bM, .inr (3, [.int cd, .int 1023, .null, .null, .int al, .null, .null, .null, .null, .int sz1, .int un, .int (b2i mo), .int tl, .int (b2i sp), .int tpo, .long fro, .int (b2i ly)])), (q14, .inl (ca14, 8, .inl (fun _ => 0)))] := hD
  refine va_putF (D := (dC, dI)) (ci := 3) (v := .ref q14) (ty := .array .int) (C := R_M) (T := F_M) (N := 17) hx hb htA in_M t_M t_M_ok n_M hown hK hP hD hS 0 rfl rfl 2 (by decide) (htA _ k_266) (fun _ h9 => h9) rfl hin rfl (by decide +kernel) rfl rfl (Nat.le_of_ble_eq_true rfl) d_M_init_16 (fun H locs hP hD hS => ?_)
  have hP : va_P (dC, dI) classes [(bM, .inr (3, [.int cd, .int 1023, .ref q14, .null, .int al, .null, .null, .null, .null, .int sz1, .int un, .int (b2i mo), .int tl, .int (b2i sp), .int tpo, .long fro, .int (b2i ly)])), (q14, .inl (ca14, 8, .inl (fun _ => 0)))] H := hP
  have hD : va_D A [(bM, .inr (3, [.int cd, .int 1023, .ref q14, .null, .int al, .null, .null, .null, .null, .int sz1, .int un, .int (b2i mo), .int tl, .int (b2i sp), .int tpo, .long fro, .int (b2i ly)])), (q14, .inl (ca14, 8, .inl (fun _ => 0)))] := hD
  refine lv_aload_n hx hb d_M_init_19 rfl (lv_at hl 0 rfl) ?_
  refine lv_bipush (v := 8) hx hb d_M_init_20 (by decide) ?_
  refine va_newa (atype := .long) (ty := .long) (a0 := (8, .inr (.inl (fun _ => 0)))) (N' := 8) hx hb (htA _ k_229) rfl hK hP hD hS hA (fun _ => rfl) (by decide) (by decide) (by decide) (Nat.le_of_ble_eq_true rfl) (Nat.le_of_ble_eq_true rfl) d_M_init_22 (fun q22 ca22 H hK hP hD hS => ?_)
  have hK : va_K (dC, dI) classes [(ca14, .int), (ca22, .long)] s := hK
  have hP : va_P (dC, dI) classes [(bM, .inr (3, [.int cd, .int 1023, .ref q14, .null, .int al, .null, .null, .null, .null, .int sz1, .int un, .int (b2i mo), .int tl, .int (b2i sp), .int tpo, .long fro, .int (b2i ly)])), (q14, .inl (ca14, 8, .inl (fun _ => 0))), (q22, .inl (ca22, 8, .inr (.inl (fun _ => 0))))] H := hP
  have hD : va_D A [(bM, .inr (3, [.int cd, .int 1023, .ref q14, .null, .int al, .null, .null, .null, .null, .int sz1, .int un, .int (b2i mo), .int tl, .int (b2i sp), .int tpo, .long fro, .int (b2i ly)])), (q14, .inl (ca14, 8, .inl (fun _ => 0))), (q22, .inl (ca22, 8, .inr (.inl (fun _ => 0))))] := hD
  refine va_putF (D := (dC, dI)) (ci := 3) (v := .ref q22) (ty := .array .long) (C := R_M) (T := F_M) (N := 17) hx hb htA in_M t_M t_M_ok n_M hown hK hP hD hS 0 rfl rfl 3 (by decide) (htA _ k_267) (fun _ h9 => h9) rfl hin rfl (by decide +kernel) rfl rfl (Nat.le_of_ble_eq_true rfl) d_M_init_24 (fun H locs hP hD hS => ?_)
  have hP : va_P (dC, dI) classes [(bM, .inr (3, [.int cd, .int 1023, .ref q14, .ref q22, .int al, .null, .null, .null, .null, .int sz1, .int un, .int (b2i mo), .int tl, .int (b2i sp), .int tpo, .long fro, .int (b2i ly)])), (q14, .inl (ca14, 8, .inl (fun _ => 0))), (q22, .inl (ca22, 8, .inr (.inl (fun _ => 0))))] H := hP
  have hD : va_D A [(bM, .inr (3, [.int cd, .int 1023, .ref q14, .ref q22, .int al, .null, .null, .null, .null, .int sz1, .int un, .int (b2i mo), .int tl, .int (b2i sp), .int tpo, .long fro, .int (b2i ly)])), (q14, .inl (ca14, 8, .inl (fun _ => 0))), (q22, .inl (ca22, 8, .inr (.inl (fun _ => 0))))] := hD
  refine lv_aload_n hx hb d_M_init_27 rfl (lv_at hl 0 rfl) ?_
  refine lv_iconst (v := 2) hx hb d_M_init_28 (by decide) ?_
  refine va_newa (atype := .boolean) (ty := .boolean) (a0 := (2, .inl (fun _ => 0))) (N' := 2) hx hb (htA _ k_380) rfl hK hP hD hS hA (fun _ => rfl) (by decide) (by decide) (by decide) (Nat.le_of_ble_eq_true rfl) (Nat.le_of_ble_eq_true rfl) d_M_init_29 (fun q29 ca29 H hK hP hD hS => ?_)
  have hK : va_K (dC, dI) classes [(ca14, .int), (ca22, .long), (ca29, .boolean)] s := hK
  have hP : va_P (dC, dI) classes [(bM, .inr (3, [.int cd, .int 1023, .ref q14, .ref q22, .int al, .null, .null, .null, .null, .int sz1, .int un, .int (b2i mo), .int tl, .int (b2i sp), .int tpo, .long fro, .int (b2i ly)])), (q14, .inl (ca14, 8, .inl (fun _ => 0))), (q22, .inl (ca22, 8, .inr (.inl (fun _ => 0)))), (q29, .inl (ca29, 2, .inl (fun k => b2i ((fun _ => false) k))))] H := hP
  have hD : va_D A [(bM, .inr (3, [.int cd, .int 1023, .ref q14, .ref q22, .int al, .null, .null, .null, .null, .int sz1, .int un, .int (b2i mo), .int tl, .int (b2i sp), .int tpo, .long fro, .int (b2i ly)])), (q14, .inl (ca14, 8, .inl (fun _ => 0))), (q22, .inl (ca22, 8, .inr (.inl (fun _ => 0)))), (q29, .inl (ca29, 2, .inl (fun k => b2i ((fun _ => false) k))))] := hD
  refine va_putF (D := (dC, dI)) (ci := 3) (v := .ref q29) (ty := .array .boolean) (C := R_M) (T := F_M) (N := 17) hx hb htA in_M t_M t_M_ok n_M hown hK hP hD hS 0 rfl rfl 5 (by decide) (htA _ k_312) (fun _ h9 => h9) rfl hin rfl (by decide +kernel) rfl rfl (Nat.le_of_ble_eq_true rfl) d_M_init_31 (fun H locs hP hD hS => ?_)
  have hP : va_P (dC, dI) classes [(bM, .inr (3, [.int cd, .int 1023, .ref q14, .ref q22, .int al, .ref q29, .null, .null, .null, .int sz1, .int un, .int (b2i mo), .int tl, .int (b2i sp), .int tpo, .long fro, .int (b2i ly)])), (q14, .inl (ca14, 8, .inl (fun _ => 0))), (q22, .inl (ca22, 8, .inr (.inl (fun _ => 0)))), (q29, .inl (ca29, 2, .inl (fun k => b2i ((fun _ => false) k))))] H := hP
  have hD : va_D A [(bM, .inr (3, [.int cd, .int 1023, .ref q14, .ref q22, .int al, .ref q29, .null, .null, .null, .int sz1, .int un, .int (b2i mo), .int tl, .int (b2i sp), .int tpo, .long fro, .int (b2i ly)])), (q14, .inl (ca14, 8, .inl (fun _ => 0))), (q22, .inl (ca22, 8, .inr (.inl (fun _ => 0)))), (q29, .inl (ca29, 2, .inl (fun k => b2i ((fun _ => false) k))))] := hD
  refine lv_aload_n hx hb d_M_init_34 rfl (lv_at hl 0 rfl) ?_
  refine lv_iconst (v := 2) hx hb d_M_init_35 (by decide) ?_
  refine va_newa (atype := .int) (ty := .int) (a0 := (2, .inl (fun _ => 0))) (N' := 2) hx hb (htA _ k_228) rfl hK hP hD hS hA (fun _ => rfl) (by decide) (by decide) (by decide) (Nat.le_of_ble_eq_true rfl) (Nat.le_of_ble_eq_true rfl) d_M_init_36 (fun q36 ca36 H hK hP hD hS => ?_)
  have hK : va_K (dC, dI) classes [(ca14, .int), (ca22, .long), (ca29, .boolean), (ca36, .int)] s := hK
  have hP : va_P (dC, dI) classes [(bM, .inr (3, [.int cd, .int 1023, .ref q14, .ref q22, .int al, .ref q29, .null, .null, .null, .int sz1, .int un, .int (b2i mo), .int tl, .int (b2i sp), .int tpo, .long fro, .int (b2i ly)])), (q14, .inl (ca14, 8, .inl (fun _ => 0))), (q22, .inl (ca22, 8, .inr (.inl (fun _ => 0)))), (q29, .inl (ca29, 2, .inl (fun k => b2i ((fun _ => false) k)))), (q36, .inl (ca36, 2, .inl (fun _ => 0)))] H := hP
  have hD : va_D A [(bM, .inr (3, [.int cd, .int 1023, .ref q14, .ref q22, .int al, .ref q29, .null, .null, .null, .int sz1, .int un, .int (b2i mo), .int tl, .int (b2i sp), .int tpo, .long fro, .int (b2i ly)])), (q14, .inl (ca14, 8, .inl (fun _ => 0))), (q22, .inl (ca22, 8, .inr (.inl (fun _ => 0)))), (q29, .inl (ca29, 2, .inl (fun k => b2i ((fun _ => false) k)))), (q36, .inl (ca36, 2, .inl (fun _ => 0)))] := hD
  refine va_putF (D := (dC, dI)) (ci := 3) (v := .ref q36) (ty := .array .int) (C := R_M) (T := F_M) (N := 17) hx hb htA in_M t_M t_M_ok n_M hown hK hP hD hS 0 rfl rfl 6 (by decide) (htA _ k_255) (fun _ h9 => h9) rfl hin rfl (by decide +kernel) rfl rfl (Nat.le_of_ble_eq_true rfl) d_M_init_38 (fun H locs hP hD hS => ?_)
  have hP : va_P (dC, dI) classes [(bM, .inr (3, [.int cd, .int 1023, .ref q14, .ref q22, .int al, .ref q29, .ref q36, .null, .null, .int sz1, .int un, .int (b2i mo), .int tl, .int (b2i sp), .int tpo, .long fro, .int (b2i ly)])), (q14, .inl (ca14, 8, .inl (fun _ => 0))), (q22, .inl (ca22, 8, .inr (.inl (fun _ => 0)))), (q29, .inl (ca29, 2, .inl (fun k => b2i ((fun _ => false) k)))), (q36, .inl (ca36, 2, .inl (fun _ => 0)))] H := hP
  have hD : va_D A [(bM, .inr (3, [.int cd, .int 1023, .ref q14, .ref q22, .int al, .ref q29, .ref q36, .null, .null, .int sz1, .int un, .int (b2i mo), .int tl, .int (b2i sp), .int tpo, .long fro, .int (b2i ly)])), (q14, .inl (ca14, 8, .inl (fun _ => 0))), (q22, .inl (ca22, 8, .inr (.inl (fun _ => 0)))), (q29, .inl (ca29, 2, .inl (fun k => b2i ((fun _ => false) k)))), (q36, .inl (ca36, 2, .inl (fun _ => 0)))] := hD
  refine lv_aload_n hx hb d_M_init_41 rfl (lv_at hl 0 rfl) ?_
  refine lv_iconst (v := 2) hx hb d_M_init_42 (by decide) ?_
  refine va_newa (atype := .long) (ty := .long) (a0 := (2, .inr (.inl (fun _ => 0)))) (N' := 2) hx hb (htA _ k_229) rfl hK hP hD hS hA (fun _ => rfl) (by decide) (by decide) (by decide) (Nat.le_of_ble_eq_true rfl) (Nat.le_of_ble_eq_true rfl) d_M_init_43 (fun q43 ca43 H hK hP hD hS => ?_)
  have hK : va_K (dC, dI) classes [(ca14, .int), (ca22, .long), (ca29, .boolean), (ca36, .int), (ca43, .long)] s := hK
  have hP : va_P (dC, dI) classes [(bM, .inr (3, [.int cd, .int 1023, .ref q14, .ref q22, .int al, .ref q29, .ref q36, .null, .null, .int sz1, .int un, .int (b2i mo), .int tl, .int (b2i sp), .int tpo, .long fro, .int (b2i ly)])), (q14, .inl (ca14, 8, .inl (fun _ => 0))), (q22, .inl (ca22, 8, .inr (.inl (fun _ => 0)))), (q29, .inl (ca29, 2, .inl (fun k => b2i ((fun _ => false) k)))), (q36, .inl (ca36, 2, .inl (fun _ => 0))), (q43, .inl (ca43, 2, .inr (.inl (fun _ => 0))))] H := hP
  have hD : va_D A [(bM, .inr (3, [.int cd, .int 1023, .ref q14, .ref q22, .int al, .ref q29, .ref q36, .null, .null, .int sz1, .int un, .int (b2i mo), .int tl, .int (b2i sp), .int tpo, .long fro, .int (b2i ly)])), (q14, .inl (ca14, 8, .inl (fun _ => 0))), (q22, .inl (ca22, 8, .inr (.inl (fun _ => 0)))), (q29, .inl (ca29, 2, .inl (fun k => b2i ((fun _ => false) k)))), (q36, .inl (ca36, 2, .inl (fun _ => 0))), (q43, .inl (ca43, 2, .inr (.inl (fun _ => 0))))] := hD
  refine va_putF (D := (dC, dI)) (ci := 3) (v := .ref q43) (ty := .array .long) (C := R_M) (T := F_M) (N := 17) hx hb htA in_M t_M t_M_ok n_M hown hK hP hD hS 0 rfl rfl 7 (by decide) (htA _ k_256) (fun _ h9 => h9) rfl hin rfl (by decide +kernel) rfl rfl (Nat.le_of_ble_eq_true rfl) d_M_init_45 (fun H locs hP hD hS => ?_)
  have hP : va_P (dC, dI) classes [(bM, .inr (3, [.int cd, .int 1023, .ref q14, .ref q22, .int al, .ref q29, .ref q36, .ref q43, .null, .int sz1, .int un, .int (b2i mo), .int tl, .int (b2i sp), .int tpo, .long fro, .int (b2i ly)])), (q14, .inl (ca14, 8, .inl (fun _ => 0))), (q22, .inl (ca22, 8, .inr (.inl (fun _ => 0)))), (q29, .inl (ca29, 2, .inl (fun k => b2i ((fun _ => false) k)))), (q36, .inl (ca36, 2, .inl (fun _ => 0))), (q43, .inl (ca43, 2, .inr (.inl (fun _ => 0))))] H := hP
  have hD : va_D A [(bM, .inr (3, [.int cd, .int 1023, .ref q14, .ref q22, .int al, .ref q29, .ref q36, .ref q43, .null, .int sz1, .int un, .int (b2i mo), .int tl, .int (b2i sp), .int tpo, .long fro, .int (b2i ly)])), (q14, .inl (ca14, 8, .inl (fun _ => 0))), (q22, .inl (ca22, 8, .inr (.inl (fun _ => 0)))), (q29, .inl (ca29, 2, .inl (fun k => b2i ((fun _ => false) k)))), (q36, .inl (ca36, 2, .inl (fun _ => 0))), (q43, .inl (ca43, 2, .inr (.inl (fun _ => 0))))] := hD
  refine lv_aload_n hx hb d_M_init_48 rfl (lv_at hl 0 rfl) ?_
  refine lv_ldc (v := 33000) hx hb hown (htA _ k_381) d_M_init_49 ?_
  refine va_newa (atype := .boolean) (ty := .boolean) (a0 := (33000, .inl (fun _ => 0))) (N' := 33000) hx hb (htA _ k_380) rfl hK hP hD hS hA (fun _ => rfl) (by decide) (by decide) (by decide) (Nat.le_of_ble_eq_true rfl) (Nat.le_of_ble_eq_true rfl) d_M_init_51 (fun q51 ca51 H hK hP hD hS => ?_)
  have hK : va_K (dC, dI) classes [(ca14, .int), (ca22, .long), (ca29, .boolean), (ca36, .int), (ca43, .long), (ca51, .boolean)] s := hK
  have hP : va_P (dC, dI) classes [(bM, .inr (3, [.int cd, .int 1023, .ref q14, .ref q22, .int al, .ref q29, .ref q36, .ref q43, .null, .int sz1, .int un, .int (b2i mo), .int tl, .int (b2i sp), .int tpo, .long fro, .int (b2i ly)])), (q14, .inl (ca14, 8, .inl (fun _ => 0))), (q22, .inl (ca22, 8, .inr (.inl (fun _ => 0)))), (q29, .inl (ca29, 2, .inl (fun k => b2i ((fun _ => false) k)))), (q36, .inl (ca36, 2, .inl (fun _ => 0))), (q43, .inl (ca43, 2, .inr (.inl (fun _ => 0)))), (q51, .inl (ca51, 33000, .inl (fun k => b2i ((fun _ => false) k))))] H := hP
  have hD : va_D A [(bM, .inr (3, [.int cd, .int 1023, .ref q14, .ref q22, .int al, .ref q29, .ref q36, .ref q43, .null, .int sz1, .int un, .int (b2i mo), .int tl, .int (b2i sp), .int tpo, .long fro, .int (b2i ly)])), (q14, .inl (ca14, 8, .inl (fun _ => 0))), (q22, .inl (ca22, 8, .inr (.inl (fun _ => 0)))), (q29, .inl (ca29, 2, .inl (fun k => b2i ((fun _ => false) k)))), (q36, .inl (ca36, 2, .inl (fun _ => 0))), (q43, .inl (ca43, 2, .inr (.inl (fun _ => 0)))), (q51, .inl (ca51, 33000, .inl (fun k => b2i ((fun _ => false) k))))] := hD
  refine va_putF (D := (dC, dI)) (ci := 3) (v := .ref q51) (ty := .array .boolean) (C := R_M) (T := F_M) (N := 17) hx hb htA in_M t_M t_M_ok n_M hown hK hP hD hS 0 rfl rfl 8 (by decide) (htA _ k_272) (fun _ h9 => h9) rfl hin rfl (by decide +kernel) rfl rfl (Nat.le_of_ble_eq_true rfl) d_M_init_53 (fun H locs hP hD hS => ?_)
  have hP : va_P (dC, dI) classes [(bM, .inr (3, [.int cd, .int 1023, .ref q14, .ref q22, .int al, .ref q29, .ref q36, .ref q43, .ref q51, .int sz1, .int un, .int (b2i mo), .int tl, .int (b2i sp), .int tpo, .long fro, .int (b2i ly)])), (q14, .inl (ca14, 8, .inl (fun _ => 0))), (q22, .inl (ca22, 8, .inr (.inl (fun _ => 0)))), (q29, .inl (ca29, 2, .inl (fun k => b2i ((fun _ => false) k)))), (q36, .inl (ca36, 2, .inl (fun _ => 0))), (q43, .inl (ca43, 2, .inr (.inl (fun _ => 0)))), (q51, .inl (ca51, 33000, .inl (fun k => b2i ((fun _ => false) k))))] H := hP
  have hD : va_D A [(bM, .inr (3, [.int cd, .int 1023, .ref q14, .ref q22, .int al, .ref q29, .ref q36, .ref q43, .ref q51, .int sz1, .int un, .int (b2i mo), .int tl, .int (b2i sp), .int tpo, .long fro, .int (b2i ly)])), (q14, .inl (ca14, 8, .inl (fun _ => 0))), (q22, .inl (ca22, 8, .inr (.inl (fun _ => 0)))), (q29, .inl (ca29, 2, .inl (fun k => b2i ((fun _ => false) k)))), (q36, .inl (ca36, 2, .inl (fun _ => 0))), (q43, .inl (ca43, 2, .inr (.inl (fun _ => 0)))), (q51, .inl (ca51, 33000, .inl (fun k => b2i ((fun _ => false) k))))] := hD
  have hP9 := hP
  exact W.vret hx hb hr (fun t ht hW => ⟨⟨⟨q14, q22, q29, q36, q43, q51, ca14, ca22, ca29, ca36, ca43, ca51⟩, rfl, trivial, by rw [ht]; exact hP, va_K.moved hW.alike hK, hD⟩, hS.F ht⟩) hS.2.2 d_M_init_56
