/-! The law, from its entry. -/
set_option maxRecDepth 20000 in
theorem sx_0 : (.classLink R_L 8 R_O : Cond) ∈ lw_tbl := List.mem_of_getElem? (i := 80) (by decide +kernel)
set_option maxRecDepth 20000 in
theorem sx_1 : (.instantiable R_O 9 : Cond) ∈ lw_tbl := List.mem_of_getElem? (i := 81) (by decide +kernel)
set_option maxRecDepth 20000 in
theorem sx_2 : (.methodLink R_L 29 y_O_init : Cond) ∈ lw_tbl := List.mem_of_getElem? (i := 82) (by decide +kernel)
set_option maxRecDepth 20000 in
theorem sx_3 : (.instanceMethod y_O_init : Cond) ∈ lw_tbl := List.mem_of_getElem? (i := 83) (by decide +kernel)
set_option maxRecDepth 20000 in
theorem sx_4 : (.classLink R_L 30 R_M : Cond) ∈ lw_tbl := List.mem_of_getElem? (i := 493) (by decide +kernel)
set_option maxRecDepth 20000 in
theorem sx_5 : (.instantiable R_M 17 : Cond) ∈ lw_tbl := List.mem_of_getElem? (i := 494) (by decide +kernel)
set_option maxRecDepth 20000 in
theorem sx_6 : (.methodLink R_L 32 y_M_init : Cond) ∈ lw_tbl := List.mem_of_getElem? (i := 495) (by decide +kernel)
set_option maxRecDepth 20000 in
theorem sx_7 : (.instanceMethod y_M_init : Cond) ∈ lw_tbl := List.mem_of_getElem? (i := 496) (by decide +kernel)
set_option maxRecDepth 20000 in
theorem sx_8 : (.laysStatic Bundle.tN "UNASSIGNED_STACK" Bundle.steD : Cond) ∈ lw_tbl := List.mem_of_getElem? (i := 204) (by decide +kernel)
set_option maxRecDepth 20000 in
theorem sx_9 : (.laysStatic Bundle.tN "SUPPRESSED_SENTINEL" Bundle.listD : Cond) ∈ lw_tbl := List.mem_of_getElem? (i := 206) (by decide +kernel)
set_option maxRecDepth 20000 in
theorem sx_10 : (.initialized Bundle.tN : Cond) ∈ lw_tbl := List.mem_of_getElem? (i := 73) (by decide +kernel)
set_option maxRecDepth 20000 in
theorem sn_0 : (.fieldLinkNest R_S 22 "RealOperations$Real" "fraction" "J" "RealOperations" : Cond) ∈ lw_tbl := List.mem_of_getElem? (i := 100) (by decide +kernel)
set_option maxRecDepth 20000 in
theorem sn_1 : (.fieldLinkNest R_S 27 "RealOperations$Real" "power" "I" "RealOperations" : Cond) ∈ lw_tbl := List.mem_of_getElem? (i := 97) (by decide +kernel)
set_option maxRecDepth 20000 in
theorem sn_2 : (.methodLinkNest R_R 28 y_S_power "RealOperations" : Cond) ∈ lw_tbl := List.mem_of_getElem? (i := 486) (by decide +kernel)
set_option maxRecDepth 20000 in
theorem sn_3 : (.methodLinkNest R_R 33 y_S_isZero "RealOperations" : Cond) ∈ lw_tbl := List.mem_of_getElem? (i := 487) (by decide +kernel)
set_option maxRecDepth 20000 in
theorem sn_4 : (.fieldLinkNest R_R 37 "RealOperations$Size" "high" "J" "RealOperations" : Cond) ∈ lw_tbl := List.mem_of_getElem? (i := 118) (by decide +kernel)
set_option maxRecDepth 20000 in
theorem sn_5 : (.fieldLinkNest R_O 108 "RealOperations$Real" "negative" "Z" "RealOperations" : Cond) ∈ lw_tbl := List.mem_of_getElem? (i := 95) (by decide +kernel)
set_option maxRecDepth 20000 in
theorem sn_6 : (.methodLinkNest R_O 167 y_R_isUnnormalOfSize "RealOperations" : Cond) ∈ lw_tbl := List.mem_of_getElem? (i := 337) (by decide +kernel)
set_option maxRecDepth 20000 in
theorem sn_7 : (.methodLinkNest R_O 130 y_R_isInfinite "RealOperations" : Cond) ∈ lw_tbl := List.mem_of_getElem? (i := 341) (by decide +kernel)
set_option maxRecDepth 20000 in
theorem sn_8 : (.methodLinkNest R_O 127 y_R_isNothing "RealOperations" : Cond) ∈ lw_tbl := List.mem_of_getElem? (i := 333) (by decide +kernel)
set_option maxRecDepth 20000 in
theorem sn_9 : (.methodLinkNest R_O 101 y_R_isNoNumber "RealOperations" : Cond) ∈ lw_tbl := List.mem_of_getElem? (i := 306) (by decide +kernel)
set_option maxRecDepth 20000 in
theorem sn_10 : (.fieldLinkNest R_O 155 "RealOperations$Real" "power" "I" "RealOperations" : Cond) ∈ lw_tbl := List.mem_of_getElem? (i := 98) (by decide +kernel)
set_option maxRecDepth 20000 in
theorem sn_11 : (.fieldLinkNest R_O 89 "RealOperations$Real" "fraction" "J" "RealOperations" : Cond) ∈ lw_tbl := List.mem_of_getElem? (i := 101) (by decide +kernel)
set_option maxRecDepth 20000 in
theorem sn_12 : (.methodLinkNest R_O 117 y_R_put "RealOperations" : Cond) ∈ lw_tbl := List.mem_of_getElem? (i := 321) (by decide +kernel)
set_option maxRecDepth 20000 in
theorem sn_13 : (.methodLinkNest R_O 186 y_S_isLessThan "RealOperations" : Cond) ∈ lw_tbl := List.mem_of_getElem? (i := 396) (by decide +kernel)
set_option maxRecDepth 20000 in
theorem sn_14 : (.methodLinkNest R_O 170 y_S_take "RealOperations" : Cond) ∈ lw_tbl := List.mem_of_getElem? (i := 377) (by decide +kernel)
set_option maxRecDepth 20000 in
theorem sn_15 : (.methodLinkNest R_O 193 y_S_subtract "RealOperations" : Cond) ∈ lw_tbl := List.mem_of_getElem? (i := 412) (by decide +kernel)
set_option maxRecDepth 20000 in
theorem sn_16 : (.methodLinkNest R_O 196 y_S_isZero "RealOperations" : Cond) ∈ lw_tbl := List.mem_of_getElem? (i := 416) (by decide +kernel)
set_option maxRecDepth 20000 in
theorem sn_17 : (.methodLinkNest R_O 190 y_S_add "RealOperations" : Cond) ∈ lw_tbl := List.mem_of_getElem? (i := 401) (by decide +kernel)
set_option maxRecDepth 20000 in
theorem sn_18 : (.methodLinkNest R_O 183 y_S_divide "RealOperations" : Cond) ∈ lw_tbl := List.mem_of_getElem? (i := 442) (by decide +kernel)
set_option maxRecDepth 20000 in
theorem sn_19 : (.methodLinkNest R_O 179 y_S_multiply "RealOperations" : Cond) ∈ lw_tbl := List.mem_of_getElem? (i := 438) (by decide +kernel)
set_option maxRecDepth 20000 in
theorem sn_20 : (.methodLinkNest R_O 176 y_S_takeRoot "RealOperations" : Cond) ∈ lw_tbl := List.mem_of_getElem? (i := 421) (by decide +kernel)
set_option maxRecDepth 20000 in
theorem sn_21 : (.methodLinkNest R_O 210 y_S_round "RealOperations" : Cond) ∈ lw_tbl := List.mem_of_getElem? (i := 466) (by decide +kernel)
set_option maxRecDepth 20000 in
theorem sn_22 : (.fieldLinkNest R_O 224 "RealOperations$Size" "exponent" "I" "RealOperations" : Cond) ∈ lw_tbl := List.mem_of_getElem? (i := 121) (by decide +kernel)
set_option maxRecDepth 20000 in
theorem sn_23 : (.methodLinkNest R_O 202 y_S_power "RealOperations" : Cond) ∈ lw_tbl := List.mem_of_getElem? (i := 450) (by decide +kernel)
set_option maxRecDepth 20000 in
theorem sn_24 : (.methodLinkNest R_O 217 y_R_putSize "RealOperations" : Cond) ∈ lw_tbl := List.mem_of_getElem? (i := 482) (by decide +kernel)
set_option maxRecDepth 20000 in
theorem sn_25 : (.methodLinkNest R_O 121 y_R_isDenormal "RealOperations" : Cond) ∈ lw_tbl := List.mem_of_getElem? (i := 357) (by decide +kernel)
set_option maxRecDepth 20000 in
theorem sn_26 : (.methodLinkNest R_O 97 y_R_take "RealOperations" : Cond) ∈ lw_tbl := List.mem_of_getElem? (i := 293) (by decide +kernel)
set_option maxRecDepth 20000 in
theorem sn_27 : (.castable "java/lang/IllegalArgumentException" "java/lang/IllegalArgumentException" : Cond) ∈ lw_tbl := List.mem_of_getElem? (i := 179) (by decide +kernel)
set_option maxRecDepth 20000 in
theorem sn_28 : (.declares ⟨"java/lang/RuntimeException", "<init>", "(Ljava/lang/String;)V"⟩ : Cond) ∈ lw_tbl := List.mem_of_getElem? (i := 181) (by decide +kernel)
set_option maxRecDepth 20000 in
theorem sn_29 : (.declares ⟨"java/lang/Exception", "<init>", "(Ljava/lang/String;)V"⟩ : Cond) ∈ lw_tbl := List.mem_of_getElem? (i := 183) (by decide +kernel)
set_option maxRecDepth 20000 in
theorem sn_30 : (.declares ⟨"java/lang/Throwable", "<init>", "(Ljava/lang/String;)V"⟩ : Cond) ∈ lw_tbl := List.mem_of_getElem? (i := 185) (by decide +kernel)
set_option maxRecDepth 20000 in
theorem sn_31 : (.castable "java/lang/IndexOutOfBoundsException" "java/lang/IndexOutOfBoundsException" : Cond) ∈ lw_tbl := List.mem_of_getElem? (i := 257) (by decide +kernel)
set_option maxRecDepth 20000 in
theorem sn_32 : (.methodLinkNest R_O 85 y_R_top "RealOperations" : Cond) ∈ lw_tbl := List.mem_of_getElem? (i := 489) (by decide +kernel)
set_option maxRecDepth 20000 in
theorem sn_33 : (.methodLinkNest R_O 26 y_R_init "RealOperations" : Cond) ∈ lw_tbl := List.mem_of_getElem? (i := 90) (by decide +kernel)
set_option maxRecDepth 20000 in
theorem sn_34 : (.methodLinkNest R_O 39 y_S_init "RealOperations" : Cond) ∈ lw_tbl := List.mem_of_getElem? (i := 113) (by decide +kernel)
theorem nAll_in : ∀ w ∈ nAll, w ∈ lw_tbl := List.forall_mem_cons.mpr ⟨sn_0, List.forall_mem_cons.mpr ⟨sn_1, List.forall_mem_cons.mpr ⟨sn_2, List.forall_mem_cons.mpr ⟨sn_3, List.forall_mem_cons.mpr ⟨sn_4, List.forall_mem_cons.mpr ⟨sn_5, List.forall_mem_cons.mpr ⟨sn_6, List.forall_mem_cons.mpr ⟨sn_7, List.forall_mem_cons.mpr ⟨sn_8, List.forall_mem_cons.mpr ⟨sn_9, List.forall_mem_cons.mpr ⟨sn_10, List.forall_mem_cons.mpr ⟨sn_11, List.forall_mem_cons.mpr ⟨sn_12, List.forall_mem_cons.mpr ⟨sn_13, List.forall_mem_cons.mpr ⟨sn_14, List.forall_mem_cons.mpr ⟨sn_15, List.forall_mem_cons.mpr ⟨sn_16, List.forall_mem_cons.mpr ⟨sn_17, List.forall_mem_cons.mpr ⟨sn_18, List.forall_mem_cons.mpr ⟨sn_19, List.forall_mem_cons.mpr ⟨sn_20, List.forall_mem_cons.mpr ⟨sn_21, List.forall_mem_cons.mpr ⟨sn_22, List.forall_mem_cons.mpr ⟨sn_23, List.forall_mem_cons.mpr ⟨sn_24, List.forall_mem_cons.mpr ⟨sn_25, List.forall_mem_cons.mpr ⟨sn_26, List.forall_mem_cons.mpr ⟨sn_27, List.forall_mem_cons.mpr ⟨sn_28, List.forall_mem_cons.mpr ⟨sn_29, List.forall_mem_cons.mpr ⟨sn_30, List.forall_mem_cons.mpr ⟨sn_31, List.forall_mem_cons.mpr ⟨sn_32, List.forall_mem_cons.mpr ⟨sn_33, List.forall_mem_cons.mpr ⟨sn_34, (fun _ h => (List.not_mem_nil h).elim)⟩⟩⟩⟩⟩⟩⟩⟩⟩⟩⟩⟩⟩⟩⟩⟩⟩⟩⟩⟩⟩⟩⟩⟩⟩⟩⟩⟩⟩⟩⟩⟩⟩⟩⟩
set_option maxRecDepth 20000 in
theorem ss_0 : (.stringRef R_O 53 "the control has more than 16 bits" : Cond) ∈ lw_tbl := List.mem_of_getElem? (i := 217) (by decide +kernel)
set_option maxRecDepth 20000 in
theorem ss_1 : (.stringRef R_O 66 "top has more than 16 bits" : Cond) ∈ lw_tbl := List.mem_of_getElem? (i := 271) (by decide +kernel)
set_option maxRecDepth 20000 in
theorem ss_2 : (.stringRef R_O 63 "no such register" : Cond) ∈ lw_tbl := List.mem_of_getElem? (i := 264) (by decide +kernel)
set_option maxRecDepth 20000 in
theorem ss_3 : (.stringRef R_O 70 "no such part" : Cond) ∈ lw_tbl := List.mem_of_getElem? (i := 280) (by decide +kernel)
set_option maxRecDepth 20000 in
theorem ss_4 : (.stringRef R_O 72 "no such operation" : Cond) ∈ lw_tbl := List.mem_of_getElem? (i := 288) (by decide +kernel)
theorem nw_start {b : Nat} {s : State} (hts : ∀ w ∈ lw_tbl, w.before #[Value.ref b] s = true) : nw_all s := fun w hw => va_Nw.of (nest_on (nAll_nest w hw)) (hts w (nAll_in w hw))
theorem str_start {own tx : String} {k b : Nat} {s : State} (h1 : (Cond.stringRef own k tx).before #[Value.ref b] s = true) (h2 : (Cond.exactly (.string own k) "java/lang/String").before #[Value.ref b] s = true) : ∃ sa, vk_R own k tx sa s := by
  obtain ⟨a, -, -, -, ha, -⟩ := Cond.exactly_spec h2
  exact ⟨a, vk_R.of h1 ha⟩
theorem sw_start {b : Nat} {s : State} (hts : ∀ w ∈ lw_tbl, w.before #[Value.ref b] s = true) (hgv : (Jvm.Cond.and given_1 narrow_1).before #[Value.ref b] s = true) : sw_all s := by
  have hs := flat_of_before _ hgv
  refine List.forall_mem_cons.mpr ⟨str_start (hts _ ss_0) (hs _ (by decide +kernel)), List.forall_mem_cons.mpr ⟨str_start (hts _ ss_1) (hs _ (by decide +kernel)), List.forall_mem_cons.mpr ⟨str_start (hts _ ss_2) (hs _ (by decide +kernel)), List.forall_mem_cons.mpr ⟨str_start (hts _ ss_3) (hs _ (by decide +kernel)), List.forall_mem_cons.mpr ⟨str_start (hts _ ss_4) (hs _ (by decide +kernel)), (fun _ h => (List.not_mem_nil h).elim)⟩⟩⟩⟩⟩
theorem d_L_law_0 : decode b_L_law 0 = .ok (.new 8, 3) := by decide +kernel
theorem d_L_law_3 : decode b_L_law 3 = .ok (.dup, 1) := by decide +kernel
theorem d_L_law_4 : decode b_L_law 4 = .ok (.invokespecial 29, 3) := by decide +kernel
theorem d_L_law_7 : decode b_L_law 7 = .ok (.astore_n 1, 1) := by decide +kernel
theorem d_L_law_8 : decode b_L_law 8 = .ok (.new 30, 3) := by decide +kernel
theorem d_L_law_11 : decode b_L_law 11 = .ok (.dup, 1) := by decide +kernel
theorem d_L_law_12 : decode b_L_law 12 = .ok (.invokespecial 32, 3) := by decide +kernel
theorem d_L_law_15 : decode b_L_law 15 = .ok (.astore_n 2, 1) := by decide +kernel
theorem d_L_law_16 : decode b_L_law 16 = .ok (.iconst 1, 1) := by decide +kernel
theorem d_L_law_17 : decode b_L_law 17 = .ok (.newarray .long, 2) := by decide +kernel
theorem d_L_law_19 : decode b_L_law 19 = .ok (.astore_n 3, 1) := by decide +kernel
theorem d_L_law_20 : decode b_L_law 20 = .ok (.iconst 0, 1) := by decide +kernel
theorem d_L_law_21 : decode b_L_law 21 = .ok (.istore 4, 2) := by decide +kernel
set_option maxHeartbeats 40000000 in
set_option maxRecDepth 100000 in
theorem whole_start {p : Program} {e : Env} {s : State} {m : MethodId} {below : List Frame} {meth : Method} {c : Code} (l : Launch) (hl9 : l.stackTraces = false) {b L : Nat} {xs : Nat → Int32} (hL : L ≤ 2560) (C0 : lw_At p s m meth c b L xs) : W p l e room_1 s m #[Value.ref b] below meth c s.heap [] 0 0 (lw_Z below #[Value.ref b] s) (entryFrame m ([Value.ref b] : List Value).toArray 7) := by
  obtain ⟨hx, hb, hr, hml, hown, hts, hX, hbl, hlocks, hgv⟩ := id C0
  have htA : ∀ w ∈ wAll, w.before #[Value.ref b] s = true := fun w h => hts w (wAll_in w h)
  have hown : s.vm.findClass R_L = some m.cls := hown
  have hnw := nw_start hts
  have hsw := sw_start hts hgv
  have hs9 := flat_of_before _ hgv
  have hnA : ∀ a : Nat, a < s.heap.size → ¬ (fun q : Nat => s.heap.size ≤ q) a := fun a h => Nat.not_le.mpr h
  have hZU : vx_Zq Bundle.tN "UNASSIGNED_STACK" Bundle.steD (fun q : Nat => s.heap.size ≤ q) s s.heap := vx_Zqof (hts _ sx_8) (hts _ sx_10) (hs9 _ (by decide +kernel)) hnA
  have hZN : vx_Zq Bundle.tN "SUPPRESSED_SENTINEL" Bundle.listD (fun q : Nat => s.heap.size ≤ q) s s.heap := vx_Zqof (hts _ sx_9) (hts _ sx_10) (hs9 _ (by decide +kernel)) hnA
  have hnc : va_Nc "java/lang/IllegalArgumentException" "java/lang/IndexOutOfBoundsException" s := va_Nc.of (hs9 _ (by decide +kernel))
  clear hs9
  have hA : ∀ q : Nat, s.heap.size ≤ q → (fun q : Nat => s.heap.size ≤ q) q := fun _ h => h
  obtain ⟨c0, iS0, hKn0⟩ := u_known (C := R_O) (T := F_O) (N := 9) (n := 9) htA in_O (hts _ sx_1)
  obtain ⟨c1, iS1, hKn1⟩ := u_known (C := R_R) (T := F_R) (N := 3) (n := 3) htA in_R (htA _ k_231)
  obtain ⟨c2, iS2, hKn2⟩ := u_known (C := R_S) (T := F_S) (N := 3) (n := 3) htA in_S (htA _ k_234)
  obtain ⟨c3, iS3, hKn3⟩ := u_known (C := R_M) (T := F_M) (N := 17) (n := 17) htA in_M (hts _ sx_5)
  obtain ⟨dC, dI, hKc⟩ : ∃ (dC : Nat → ClassId) (dI : Nat → Nat → Nat), ∀ (k : Nat) (q : vw_C), classes[k]? = some q → u_Kn s q.1 q.2.1 q.2.2 (dC k) (dI k) := by
    refine ⟨fun k => if k = 0 then c0 else if k = 1 then c1 else if k = 2 then c2 else c3, fun k => if k = 0 then iS0 else if k = 1 then iS1 else if k = 2 then iS2 else iS3, ?_⟩
    intro k q hq
    match k, hq with
    | 0, hq => cases hq; exact hKn0
    | 1, hq => cases hq; exact hKn1
    | 2, hq => cases hq; exact hKn2
    | 3, hq => cases hq; exact hKn3
    | k + 4, hq => simp [classes] at hq
  have hS : va_S (fun q : Nat => s.heap.size ≤ q) s.heap s.heap [] := va_S.rf
  have hK : va_K (dC, dI) classes [] s := ⟨hKc, fun k q h => by simp at h⟩
  have hP : va_P (dC, dI) classes [] s.heap := fun k q h => by simp at h
  have hD : va_D (fun q : Nat => s.heap.size ≤ q) [] := ⟨fun i j p q h => by simp at h, fun k q h => by simp at h⟩
  have hl := lv_entry ([.ref b]) (n := 7) (Nat.le_of_ble_eq_true rfl)
  rw [lg_entry_eq]
  generalize (lg_sl ([.ref b]) ++ List.replicate (7 - (lg_sl ([.ref b])).length) Slot.unset).toArray = ls at hl ⊢
  have hl : lv_has ls 7 [(0, .ref b)] := hl
  refine va_new (ci := 0) (fs := [.null, .null, .int 0, .int 0, .null, .null, .null, .null, .null]) (C := R_O) (T := F_O) (N := 9) hx hb htA in_O t_O t_O_ok hown (hts _ sx_0) (hts _ sx_1) (htA _ k_90) hK hP hD hS hA rfl (fun j hj => by rcases (show j = 0 ∨ j = 1 ∨ j = 2 ∨ j = 3 ∨ j = 4 ∨ j = 5 ∨ j = 6 ∨ j = 7 ∨ j = 8 by omega) with rfl | rfl | rfl | rfl | rfl | rfl | rfl | rfl | rfl <;> rfl) (Nat.le_of_ble_eq_true rfl) (Nat.le_of_ble_eq_true rfl) d_L_law_0 (fun qO H hP hD hS => ?_)
  have hP : va_P (dC, dI) classes [(qO, .inr (0, [.null, .null, .int 0, .int 0, .null, .null, .null, .null, .null]))] H := hP
  have hD : va_D (fun q : Nat => s.heap.size ≤ q) [(qO, .inr (0, [.null, .null, .int 0, .int 0, .null, .null, .null, .null, .null]))] := hD
  refine W.widen (k := 1) (n := 9) (by omega) (by omega) ?_
  refine lv_dup hx hb d_L_law_3 rfl ?_
  have hPc := hP.sub (ws' := [(qO, .inr (0, [.null, .null, .int 0, .int 0, .null, .null, .null, .null, .null]))]) [0] rfl
  have hDc := hD.sub (ws' := [(qO, .inr (0, [.null, .null, .int 0, .int 0, .null, .null, .null, .null, .null]))]) [0] (by decide) rfl
  have hKc := hK.sub (tys' := []) [] rfl
  have hFc := va_free (wc := [(qO, .inr (0, [.null, .null, .int 0, .int 0, .null, .null, .null, .null, .null]))]) hD hS hA [0] rfl
  refine va_callv (va_runI (As := []) (rest := [.ref qO]) ⟨hx, hb, hml, hown, htA⟩ (c_O_init l dC dI qO H.size 0 0) (cwI 0 htA (gi_code k_236) rfl rfl rfl (htA _ k_90) (hts _ sx_2) (hts _ sx_3) rfl (by decide +kernel) ⟨Nat.le_of_ble_eq_true rfl, Nat.le_of_ble_eq_true rfl⟩) (pre_S hnw hPc hKc hDc) rfl rfl hl.1 rfl (lv_room (Nat.le_of_ble_eq_true rfl)) d_L_law_4 ⟨Nat.le_of_ble_eq_true rfl, Nat.le_of_ble_eq_true rfl⟩) hS (fun q _ h => hFc q h) hFc (fun u t H1 locs ht hvm hw hB hz1 hk1 hS => ?_)
  obtain ⟨aT, aF, a1, a2, a3, a4, a5, cI, cL⟩ := u
  obtain ⟨hP1, hK1, hD1⟩ := hB
  rw [ht] at hP1
  have hK1 := va_K.moved hvm.symm hK1
  obtain ⟨hP, hD⟩ := va_join (wr := []) (w1 := [(qO, .inr (0, [.ref aT, .ref aF, .int 1023, .int 0, .ref a1, .ref a2, .ref a3, .ref a4, .ref a5])), (aT, .inl (cI, 8, .inl (fun _ => 0))), (aF, .inl (cL, 8, .inr (.inl (fun _ => 0)))), (a1, .inr (1, [.int (b2i false), .int 0, .long 0])), (a2, .inr (1, [.int (b2i false), .int 0, .long 0])), (a3, .inr (1, [.int (b2i false), .int 0, .long 0])), (a4, .inr (2, [.long 0, .long 0, .int (-20000)])), (a5, .inr (2, [.long 0, .long 0, .int (-20000)]))]) hP hD [0] [] rfl rfl (by decide) (by decide) hk1 hFc hP1 hD1
  have hK := (hK.sub (tys' := []) [] rfl).app hK1
  generalize H1 = H at hP hS ⊢
  have hP : va_P (dC, dI) classes [(qO, .inr (0, [.ref aT, .ref aF, .int 1023, .int 0, .ref a1, .ref a2, .ref a3, .ref a4, .ref a5])), (aT, .inl (cI, 8, .inl (fun _ => 0))), (aF, .inl (cL, 8, .inr (.inl (fun _ => 0)))), (a1, .inr (1, [.int (b2i false), .int 0, .long 0])), (a2, .inr (1, [.int (b2i false), .int 0, .long 0])), (a3, .inr (1, [.int (b2i false), .int 0, .long 0])), (a4, .inr (2, [.long 0, .long 0, .int (-20000)])), (a5, .inr (2, [.long 0, .long 0, .int (-20000)]))] H := hP
  have hD : va_D (fun q : Nat => s.heap.size ≤ q) [(qO, .inr (0, [.ref aT, .ref aF, .int 1023, .int 0, .ref a1, .ref a2, .ref a3, .ref a4, .ref a5])), (aT, .inl (cI, 8, .inl (fun _ => 0))), (aF, .inl (cL, 8, .inr (.inl (fun _ => 0)))), (a1, .inr (1, [.int (b2i false), .int 0, .long 0])), (a2, .inr (1, [.int (b2i false), .int 0, .long 0])), (a3, .inr (1, [.int (b2i false), .int 0, .long 0])), (a4, .inr (2, [.long 0, .long 0, .int (-20000)])), (a5, .inr (2, [.long 0, .long 0, .int (-20000)]))] := hD
  have hK : va_K (dC, dI) classes [(cI, .int), (cL, .long)] s := hK
  clear hP1 hD1 hK1 hk1 hz1 hw hPc hDc hKc hFc
  refine W.widen (k := 8) (n := 40) (by omega) (by omega) ?_
  refine lv_astore_n (lv' := [(1, .ref qO), (0, .ref b)]) hx hb d_L_law_7 rfl hl (by decide) rfl (fun ls hl => ?_)
  refine va_new (ci := 3) (fs := [.int 0, .int 0, .null, .null, .int 0, .null, .null, .null, .null, .int 0, .int 0, .int 0, .int 0, .int 0, .int 0, .long 0, .int 0]) (C := R_M) (T := F_M) (N := 17) hx hb htA in_M t_M t_M_ok hown (hts _ sx_4) (hts _ sx_5) (htA _ k_263) hK hP hD hS hA rfl (fun j hj => by rcases (show j = 0 ∨ j = 1 ∨ j = 2 ∨ j = 3 ∨ j = 4 ∨ j = 5 ∨ j = 6 ∨ j = 7 ∨ j = 8 ∨ j = 9 ∨ j = 10 ∨ j = 11 ∨ j = 12 ∨ j = 13 ∨ j = 14 ∨ j = 15 ∨ j = 16 by omega) with rfl | rfl | rfl | rfl | rfl | rfl | rfl | rfl | rfl | rfl | rfl | rfl | rfl | rfl | rfl | rfl | rfl <;> rfl) (Nat.le_of_ble_eq_true rfl) (Nat.le_of_ble_eq_true rfl) d_L_law_8 (fun qM H hP hD hS => ?_)
  have hP : va_P (dC, dI) classes [(qO, .inr (0, [.ref aT, .ref aF, .int 1023, .int 0, .ref a1, .ref a2, .ref a3, .ref a4, .ref a5])), (aT, .inl (cI, 8, .inl (fun _ => 0))), (aF, .inl (cL, 8, .inr (.inl (fun _ => 0)))), (a1, .inr (1, [.int (b2i false), .int 0, .long 0])), (a2, .inr (1, [.int (b2i false), .int 0, .long 0])), (a3, .inr (1, [.int (b2i false), .int 0, .long 0])), (a4, .inr (2, [.long 0, .long 0, .int (-20000)])), (a5, .inr (2, [.long 0, .long 0, .int (-20000)])), (qM, .inr (3, [.int 0, .int 0, .null, .null, .int 0, .null, .null, .null, .null, .int 0, .int 0, .int (b2i false), .int 0, .int (b2i false), .int 0, .long 0, .int (b2i false)]))] H := hP
  have hD : va_D (fun q : Nat => s.heap.size ≤ q) [(qO, .inr (0, [.ref aT, .ref aF, .int 1023, .int 0, .ref a1, .ref a2, .ref a3, .ref a4, .ref a5])), (aT, .inl (cI, 8, .inl (fun _ => 0))), (aF, .inl (cL, 8, .inr (.inl (fun _ => 0)))), (a1, .inr (1, [.int (b2i false), .int 0, .long 0])), (a2, .inr (1, [.int (b2i false), .int 0, .long 0])), (a3, .inr (1, [.int (b2i false), .int 0, .long 0])), (a4, .inr (2, [.long 0, .long 0, .int (-20000)])), (a5, .inr (2, [.long 0, .long 0, .int (-20000)])), (qM, .inr (3, [.int 0, .int 0, .null, .null, .int 0, .null, .null, .null, .null, .int 0, .int 0, .int (b2i false), .int 0, .int (b2i false), .int 0, .long 0, .int (b2i false)]))] := hD
  refine W.widen (k := 9) (n := 57) (by omega) (by omega) ?_
  refine lv_dup hx hb d_L_law_11 rfl ?_
  have hPc := hP.sub (ws' := [(qM, .inr (3, [.int 0, .int 0, .null, .null, .int 0, .null, .null, .null, .null, .int 0, .int 0, .int (b2i false), .int 0, .int (b2i false), .int 0, .long 0, .int (b2i false)]))]) [8] rfl
  have hDc := hD.sub (ws' := [(qM, .inr (3, [.int 0, .int 0, .null, .null, .int 0, .null, .null, .null, .null, .int 0, .int 0, .int (b2i false), .int 0, .int (b2i false), .int 0, .long 0, .int (b2i false)]))]) [8] (by decide) rfl
  have hKc := hK.sub (tys' := []) [] rfl
  have hFc := va_free (wc := [(qM, .inr (3, [.int 0, .int 0, .null, .null, .int 0, .null, .null, .null, .null, .int 0, .int 0, .int (b2i false), .int 0, .int (b2i false), .int 0, .long 0, .int (b2i false)]))]) hD hS hA [8] rfl
  refine va_callv (va_runI (As := []) (rest := [.ref qM]) ⟨hx, hb, hml, hown, htA⟩ (c_M_init l dC dI qM H.size 0 0 0 0 0 false 0 false 0 0 false) (cwI 0 htA (gi_code k_382) rfl rfl rfl (htA _ k_263) (hts _ sx_6) (hts _ sx_7) rfl (by decide +kernel) ⟨Nat.le_of_ble_eq_true rfl, Nat.le_of_ble_eq_true rfl⟩) (pre_S hnw hPc hKc hDc) rfl rfl hl.1 rfl (lv_room (Nat.le_of_ble_eq_true rfl)) d_L_law_12 ⟨Nat.le_of_ble_eq_true rfl, Nat.le_of_ble_eq_true rfl⟩) hS (fun q _ h => hFc q h) hFc (fun u t H1 locs ht hvm hw hB hz1 hk1 hS => ?_)
  obtain ⟨bT, bF, bN9, bP, bQ, bR, kT, kF, kN, kP, kQ, kR⟩ := u
  obtain ⟨hP1, hK1, hD1⟩ := hB
  rw [ht] at hP1
  have hK1 := va_K.moved hvm.symm hK1
  obtain ⟨hP, hD⟩ := va_join (wr := [(qO, .inr (0, [.ref aT, .ref aF, .int 1023, .int 0, .ref a1, .ref a2, .ref a3, .ref a4, .ref a5])), (aT, .inl (cI, 8, .inl (fun _ => 0))), (aF, .inl (cL, 8, .inr (.inl (fun _ => 0)))), (a1, .inr (1, [.int (b2i false), .int 0, .long 0])), (a2, .inr (1, [.int (b2i false), .int 0, .long 0])), (a3, .inr (1, [.int (b2i false), .int 0, .long 0])), (a4, .inr (2, [.long 0, .long 0, .int (-20000)])), (a5, .inr (2, [.long 0, .long 0, .int (-20000)]))]) (w1 := [(qM, .inr (3, [.int 0, .int 1023, .ref bT, .ref bF, .int 0, .ref bN9, .ref bP, .ref bQ, .ref bR, .int 0, .int 0, .int (b2i false), .int 0, .int (b2i false), .int 0, .long 0, .int (b2i false)])), (bT, .inl (kT, 8, .inl (fun _ => 0))), (bF, .inl (kF, 8, .inr (.inl (fun _ => 0)))), (bN9, .inl (kN, 2, .inl (fun k => b2i ((fun _ => false) k)))), (bP, .inl (kP, 2, .inl (fun _ => 0))), (bQ, .inl (kQ, 2, .inr (.inl (fun _ => 0)))), (bR, .inl (kR, 33000, .inl (fun k => b2i ((fun _ => false) k))))]) hP hD [8] [0, 1, 2, 3, 4, 5, 6, 7] rfl rfl (by decide) (by decide) hk1 hFc hP1 hD1
  have hK := (hK.sub (tys' := [(cI, .int), (cL, .long)]) [0, 1] rfl).app hK1
  generalize H1 = H at hP hS ⊢
  have hP : va_P (dC, dI) classes [(qO, .inr (0, [.ref aT, .ref aF, .int 1023, .int 0, .ref a1, .ref a2, .ref a3, .ref a4, .ref a5])), (aT, .inl (cI, 8, .inl (fun _ => 0))), (aF, .inl (cL, 8, .inr (.inl (fun _ => 0)))), (a1, .inr (1, [.int (b2i false), .int 0, .long 0])), (a2, .inr (1, [.int (b2i false), .int 0, .long 0])), (a3, .inr (1, [.int (b2i false), .int 0, .long 0])), (a4, .inr (2, [.long 0, .long 0, .int (-20000)])), (a5, .inr (2, [.long 0, .long 0, .int (-20000)])), (qM, .inr (3, [.int 0, .int 1023, .ref bT, .ref bF, .int 0, .ref bN9, .ref bP, .ref bQ, .ref bR, .int 0, .int 0, .int (b2i false), .int 0, .int (b2i false), .int 0, .long 0, .int (b2i false)])), (bT, .inl (kT, 8, .inl (fun _ => 0))), (bF, .inl (kF, 8, .inr (.inl (fun _ => 0)))), (bN9, .inl (kN, 2, .inl (fun k => b2i ((fun _ => false) k)))), (bP, .inl (kP, 2, .inl (fun _ => 0))), (bQ, .inl (kQ, 2, .inr (.inl (fun _ => 0)))), (bR, .inl (kR, 33000, .inl (fun k => b2i ((fun _ => false) k))))] H := hP
  have hD : va_D (fun q : Nat => s.heap.size ≤ q) [(qO, .inr (0, [.ref aT, .ref aF, .int 1023, .int 0, .ref a1, .ref a2, .ref a3, .ref a4, .ref a5])), (aT, .inl (cI, 8, .inl (fun _ => 0))), (aF, .inl (cL, 8, .inr (.inl (fun _ => 0)))), (a1, .inr (1, [.int (b2i false), .int 0, .long 0])), (a2, .inr (1, [.int (b2i false), .int 0, .long 0])), (a3, .inr (1, [.int (b2i false), .int 0, .long 0])), (a4, .inr (2, [.long 0, .long 0, .int (-20000)])), (a5, .inr (2, [.long 0, .long 0, .int (-20000)])), (qM, .inr (3, [.int 0, .int 1023, .ref bT, .ref bF, .int 0, .ref bN9, .ref bP, .ref bQ, .ref bR, .int 0, .int 0, .int (b2i false), .int 0, .int (b2i false), .int 0, .long 0, .int (b2i false)])), (bT, .inl (kT, 8, .inl (fun _ => 0))), (bF, .inl (kF, 8, .inr (.inl (fun _ => 0)))), (bN9, .inl (kN, 2, .inl (fun k => b2i ((fun _ => false) k)))), (bP, .inl (kP, 2, .inl (fun _ => 0))), (bQ, .inl (kQ, 2, .inr (.inl (fun _ => 0)))), (bR, .inl (kR, 33000, .inl (fun k => b2i ((fun _ => false) k))))] := hD
  have hK : va_K (dC, dI) classes [(cI, .int), (cL, .long), (kT, .int), (kF, .long), (kN, .boolean), (kP, .int), (kQ, .long), (kR, .boolean)] s := hK
  clear hP1 hD1 hK1 hk1 hz1 hw hPc hDc hKc hFc
  refine W.widen (k := 15) (n := 33079) (by omega) (by omega) ?_
  refine lv_astore_n (lv' := [(2, .ref qM), (1, .ref qO), (0, .ref b)]) hx hb d_L_law_15 rfl hl (by decide) rfl (fun ls hl => ?_)
  refine lv_iconst (v := 1) hx hb d_L_law_16 (by decide) ?_
  refine va_newa (atype := .long) (ty := .long) (a0 := (1, .inr (.inl (fun _ => 0)))) (N' := 1) hx hb (htA _ k_229) rfl hK hP hD hS hA (fun _ => rfl) (by decide) (by decide) (by decide) (Nat.le_of_ble_eq_true rfl) (Nat.le_of_ble_eq_true rfl) d_L_law_17 (fun qV cV H hK hP hD hS => ?_)
  have hP : va_P (dC, dI) classes [(qO, .inr (0, [.ref aT, .ref aF, .int 1023, .int 0, .ref a1, .ref a2, .ref a3, .ref a4, .ref a5])), (aT, .inl (cI, 8, .inl (fun _ => 0))), (aF, .inl (cL, 8, .inr (.inl (fun _ => 0)))), (a1, .inr (1, [.int (b2i false), .int 0, .long 0])), (a2, .inr (1, [.int (b2i false), .int 0, .long 0])), (a3, .inr (1, [.int (b2i false), .int 0, .long 0])), (a4, .inr (2, [.long 0, .long 0, .int (-20000)])), (a5, .inr (2, [.long 0, .long 0, .int (-20000)])), (qM, .inr (3, [.int 0, .int 1023, .ref bT, .ref bF, .int 0, .ref bN9, .ref bP, .ref bQ, .ref bR, .int 0, .int 0, .int (b2i false), .int 0, .int (b2i false), .int 0, .long 0, .int (b2i false)])), (bT, .inl (kT, 8, .inl (fun _ => 0))), (bF, .inl (kF, 8, .inr (.inl (fun _ => 0)))), (bN9, .inl (kN, 2, .inl (fun k => b2i ((fun _ => false) k)))), (bP, .inl (kP, 2, .inl (fun _ => 0))), (bQ, .inl (kQ, 2, .inr (.inl (fun _ => 0)))), (bR, .inl (kR, 33000, .inl (fun k => b2i ((fun _ => false) k)))), (qV, .inl (cV, 1, .inr (.inl (fun _ => 0))))] H := hP
  have hD : va_D (fun q : Nat => s.heap.size ≤ q) [(qO, .inr (0, [.ref aT, .ref aF, .int 1023, .int 0, .ref a1, .ref a2, .ref a3, .ref a4, .ref a5])), (aT, .inl (cI, 8, .inl (fun _ => 0))), (aF, .inl (cL, 8, .inr (.inl (fun _ => 0)))), (a1, .inr (1, [.int (b2i false), .int 0, .long 0])), (a2, .inr (1, [.int (b2i false), .int 0, .long 0])), (a3, .inr (1, [.int (b2i false), .int 0, .long 0])), (a4, .inr (2, [.long 0, .long 0, .int (-20000)])), (a5, .inr (2, [.long 0, .long 0, .int (-20000)])), (qM, .inr (3, [.int 0, .int 1023, .ref bT, .ref bF, .int 0, .ref bN9, .ref bP, .ref bQ, .ref bR, .int 0, .int 0, .int (b2i false), .int 0, .int (b2i false), .int 0, .long 0, .int (b2i false)])), (bT, .inl (kT, 8, .inl (fun _ => 0))), (bF, .inl (kF, 8, .inr (.inl (fun _ => 0)))), (bN9, .inl (kN, 2, .inl (fun k => b2i ((fun _ => false) k)))), (bP, .inl (kP, 2, .inl (fun _ => 0))), (bQ, .inl (kQ, 2, .inr (.inl (fun _ => 0)))), (bR, .inl (kR, 33000, .inl (fun k => b2i ((fun _ => false) k)))), (qV, .inl (cV, 1, .inr (.inl (fun _ => 0))))] := hD
  have hK : va_K (dC, dI) classes [(cI, .int), (cL, .long), (kT, .int), (kF, .long), (kN, .boolean), (kP, .int), (kQ, .long), (kR, .boolean), (cV, .long)] s := hK
  refine W.widen (k := 16 + 0) (n := 33080 + 6 * 0) (by omega) (by omega) ?_
  refine lv_astore_n (lv' := [(3, .ref qV), (2, .ref qM), (1, .ref qO), (0, .ref b)]) hx hb d_L_law_19 rfl hl (by decide) rfl (fun ls hl => ?_)
  refine lv_iconst (v := 0) hx hb d_L_law_20 (by decide) ?_
  refine lv_istore (lv' := [(4, .int 0), (3, .ref qV), (2, .ref qM), (1, .ref qO), (0, .ref b)]) hx hb d_L_law_21 hl (by decide) rfl (fun ls hl => ?_)
  have hI : lInv 1023 0 (fun _ => 0) (fun _ => 0) 1023 0 (fun _ => 0) (fun _ => 0) := ⟨rfl, rfl, fun _ _ => ⟨rfl, rfl⟩, fun _ _ => show (0 : Int) ≤ (0 : Int32).toInt ∧ (0 : Int32).toInt ≤ (65535 : Int) from by decide, by decide, by decide⟩
  exact law_loop hl9 hL C0 hnw hsw hZU hZN hnc operate_is (L + 1) 0 (Nat.zero_le L) (by omega) 0 nI_0.symm 1023 0 (fun _ => 0) (fun _ => 0) false 0 0 false 0 0 false 0 0 0 0 (-20000) 0 0 (-20000) 0 1023 0 0 0 false 0 false 0 0 false (fun _ => 0) (fun _ => 0) (fun _ => false) (fun _ => 0) (fun _ => 0) (fun _ => false) (fun _ => 0) hI cI cL kT kF kN kP kQ kR cV qO aT aF a1 a2 a3 a4 a5 qM bT bF bN9 bP bQ bR qV H _ (hK.sub [0, 1, 8, 2, 3, 4, 5, 6, 7] rfl) (hP.sub [0, 1, 2, 3, 4, 5, 6, 7, 8, 9, 10, 11, 12, 13, 14, 15] rfl) (hD.sub [0, 1, 2, 3, 4, 5, 6, 7, 8, 9, 10, 11, 12, 13, 14, 15] (by decide) rfl) hS ls (lv_sub hl [4, 3, 2, 1, 0] rfl)

