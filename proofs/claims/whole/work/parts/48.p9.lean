/-! Pure rows, 9: make, all cases. -/
theorem sOk_b (b : Bool) (x y : Int32) (hx : sOk x) (hy : sOk y) : sOk (if b = true then x else y) := by
  cases b
  · rw [if_neg nff]; exact hy
  · rw [if_pos ytt]; exact hx
theorem p3_lo {P : Int32} {v : Int} (h : P.toInt = 0 ∨ (0 < P.toInt ∧ P.toInt = v)) : 0 ≤ P.toInt := by omega
theorem p3_hi {P : Int32} {v : Int} (h : P.toInt = 0 ∨ (0 < P.toInt ∧ P.toInt = v)) (hv : v ≤ 32767) : P.toInt ≤ 32767 := by omega
theorem im_m : (-24576 : Int32).toInt = -24576 := by decide
theorem im_p : (24576 : Int32).toInt = 24576 := by decide
theorem im_0 : (0 : Int32).toInt = 0 := rfl
theorem q_small_d {n d : Nat} {x : Int} (hn : n ≤ 64) (ed : (d : Int) = (64 - n : Nat) + (1 - (x + 16446))) : ((-16381) - nI n).toInt = x + d := by
  rw [q_small hn]
  omega
theorem q_small_lo {n : Nat} (hn : n ≤ 64) : -100000 ≤ ((-16381) - nI n).toInt := by
  rw [q_small hn]
  omega
theorem q_small_hi {n : Nat} (hn : n ≤ 64) : ((-16381) - nI n).toInt ≤ 100000 := by
  rw [q_small hn]
  omega
theorem q_small_x {n : Nat} (h1 : 24 ≤ n) (hn : n ≤ 64) : -16445 ≤ ((-16381) - nI n).toInt ∧ ((-16381) - nI n).toInt ≤ -16405 := by
  rw [q_small hn]
  omega
section Mk3
variable {hi lo : Int64} {ex z un : Int32} {mo : Bool} {rb : Nat → Bool}
theorem make_is (h : AG hi lo ex z un mo rb) {wd : Int32} (h0 : 0 ≤ wd.toInt) (tl : Int32) (bs : Bool) :
    ∃ s P F, ((∃ X, g_O_make wd hi lo ex bs = (s, P, F, X)) ∧ (∃ Y, g_M_make wd z un mo tl rb bs = (tl + s, g_M_answer bs P, F, Y))) ∧ 0 ≤ P.toInt ∧ P.toInt ≤ 32767 ∧ sOk s := by
  have hk := AG_high h
  obtain ⟨hz, hh, ⟨e1, e2⟩, ⟨u1, u2⟩, -⟩ := id h
  have hn := digN_c wd
  have hdO := O_dig h0
  have hdM := M_dig h0
  generalize digN wd = n at hn hdO hdM
  have n64 : n ≤ 64 := by omega
  have n24 : 24 ≤ n := by omega
  have hn9 : Hd (n = 24 ∨ n = 53 ∨ n = 64) := hn
  clear hn
  have hwO := O_way h0
  have hwM := M_way h0
  have hw4 := wayN_lt wd
  have hzf : ¬ g_S_isZero hi lo = true := isZero_f (by
    intro q
    rw [uN_z] at q
    rw [q] at hh
    exact absurd hh (by decide)) lo
  have eD : (64 : Int32) - nI n = nI (64 - n) := nI_sub (a := 64) (by decide) n64
  have E1 : -100000 ≤ ex.toInt := by omega
  have E2 : ex.toInt ≤ 100000 := by omega
  have hq := q_norm E1 E2 n64
  have ctn := ctn_is E1 E2
  have cti := cti_is E1 E2
  obtain ⟨jw, hi', ex', ly, W, g1, r1, j1, R⟩ := both_round h h0 bs (iq := ((ex + 63) + 1) - nI n) (d := 64 - n) (by omega) hq
  obtain ⟨L1, L2, L3⟩ := longer_is hn9.out j1 R e1 e2
  have hRU := RS_RU R hq (by omega) E1 E2
  have cap := cap_is E1 E2 L3
  have La : ex.toInt ≤ ex'.toInt := by omega
  have Lb : ex'.toInt ≤ ex.toInt + 1 := by omega
  have cap2 := cap2_is (ex' := ex') (by omega) (by omega)
  have Q1 : -100000 ≤ (((ex + 63) + 1) - nI n).toInt := by rw [hq]; omega
  have Q2 : (((ex + 63) + 1) - nI n).toInt ≤ 100000 := by rw [hq]; omega
  clear L3
  have j1 : Hd (uN jw = W % 2 ^ 64) := j1
  have hq9 := hq
  clear hq
  by_cases tn : 1 ≤ ex.toInt + 16446
  · by_cases big : 16384 ≤ ex'.toInt + 63
    · by_cases mk : (wd &&& 8) = 0
      · obtain ⟨P, F, p1, p2, p3⟩ := put_is bs hRU (im := -24576) (bw := decide (W = 2 ^ 64)) j1.out decide_eq_true_iff Q1 Q2 (by rw [im_m]; decide) (by rw [im_m]; decide) (fun q => by rw [im_m] at q; omega)
        have p2 : g_R_putSize hi' 0 (ex' - 24576) = (P, F) := by rw [Int32.sub_eq_add_neg]; exact p2
        have := mk_over (tl := tl) hk hdO hdM hwO eD hzf (ctn.out.mpr tn) (cti.out.mpr tn) g1 r1 L1 L2 (cap.out.mpr big) (fun q => cap2.out.mp q big) mk p1 p2
        exact ⟨_, P, F, this, p3_lo p3, p3_hi p3 (by rw [im_m]; omega), sOk_b _ _ _ (Or.inr (Or.inr (Or.inr (Or.inr (Or.inl rfl))))) (Or.inr (Or.inl rfl))⟩
      · obtain ⟨P, F, hh9, P0, P1⟩ := mk_overm (tl := tl) hk hdO hdM hwO hwM hw4 eD hzf (ctn.out.mpr tn) (cti.out.mpr tn) g1 r1 L1 L2 (cap.out.mpr big) (fun q => cap2.out.mp q big) mk
        exact ⟨40, P, F, hh9, P0, P1, Or.inr (Or.inr (Or.inr (Or.inr (Or.inl rfl))))⟩
    · obtain ⟨P, F, p1, p2, p3⟩ := put_is bs hRU (im := 0) (bw := decide (W = 2 ^ 64)) j1.out decide_eq_true_iff Q1 Q2 (by rw [im_0]; decide) (by rw [im_0]; decide) (fun q => by rw [im_0] at q; omega)
      rw [Int32.add_zero] at p2
      have := mk_fit (tl := tl) hk hdO hdM hwO eD hzf (ctn.out.mpr tn) (cti.out.mpr tn) g1 r1 L1 L2 (fun q => big (cap.out.mp q)) (cap2.out.mpr big) p1 p2
      exact ⟨_, P, F, this, p3_lo p3, p3_hi p3 (by rw [im_0]; omega), sOk_b _ _ _ (Or.inr (Or.inr (Or.inr (Or.inl rfl)))) (Or.inl rfl)⟩
  · by_cases mk : (wd &&& 16) = 0
    · obtain ⟨P, F, p1, p2, p3⟩ := put_is bs hRU (im := 24576) (bw := decide (W = 2 ^ 64)) j1.out decide_eq_true_iff Q1 Q2 (by rw [im_p]; decide) (by rw [im_p]; decide) (fun q => by rw [im_p] at q; omega)
      have := mk_tiny (tl := tl) hk hdO hdM hwO eD hzf (fun q => tn (ctn.out.mp q)) (fun q => tn (cti.out.mp q)) g1 r1 L1 mk p1 p2
      exact ⟨_, P, F, this, p3_lo p3, p3_hi p3 (by rw [im_p]; omega), sOk_b _ _ _ (Or.inr (Or.inr (Or.inr (Or.inr (Or.inr rfl))))) (Or.inr (Or.inr (Or.inl rfl)))⟩
    · clear hq9 Q1 Q2 hRU cap cap2 La Lb j1 R g1 r1 L1 L2
      obtain ⟨d, ed⟩ : ∃ d : Nat, (d : Int) = (64 - n : Nat) + (1 - (ex.toInt + 16446)) := ⟨((64 - n : Nat) + (1 - (ex.toInt + 16446))).toNat, by omega⟩
      have hd40 : d ≤ 40000 := by omega
      have hd1 : 1 ≤ d := by omega
      have eDs := eDs_is E1 E2 n64 (by omega) ed
      have hqd : Hd (((-16381) - nI n).toInt = ex.toInt + d) := q_small_d n64 ed
      have ql : Hd (-100000 ≤ ((-16381) - nI n).toInt) := q_small_lo n64
      have qh : Hd (((-16381) - nI n).toInt ≤ 100000) := q_small_hi n64
      have qx : Hd (0 ≤ ((-16381) - nI n).toInt + 16445 ∧ ((-16381) - nI n).toInt + 16445 ≤ 63) := by
        have t := q_small_x n24 n64
        generalize ((-16381) - nI n).toInt = y at t
        exact ⟨by omega, by omega⟩
      obtain ⟨jv, hi2, ex2, ly2, V, g2, r2, j2, R2⟩ := both_round h h0 bs (iq := (-16381) - nI n) (d := d) hd40 hqd.out
      have hRU2 := RS_RU R2 hqd.out hd40 E1 E2
      have vn := V_ne R2 hd1
      have xe := RS_ex R2 hd40 E1 E2
      have xb : ex2.toInt + 0 + 16446 ≤ 32767 := by
        clear hRU2 R2 r2 g2 j2 vn eDs hqd ql qh qx
        omega
      obtain ⟨P, F, p1, p2, p3⟩ := put_is bs hRU2 (im := 0) (bw := false) j2 vn.out ql.out qh.out (by rw [im_0]; decide) (by rw [im_0]; decide) (fun _ => ⟨im_0, qx.out.1, qx.out.2⟩)
      rw [Int32.add_zero] at p2
      have := mk_small (tl := tl) hk hdO hdM hwO eD eDs hzf (fun q => tn (ctn.out.mp q)) (fun q => tn (cti.out.mp q)) g2 r2 mk p1 p2
      exact ⟨_, P, F, this, p3_lo p3, p3_hi p3 (by rw [im_0]; exact xb), sOk_b _ _ _ (Or.inr (Or.inr (Or.inr (Or.inr (Or.inr rfl))))) (Or.inl rfl)⟩
end Mk3
