/-! Pure rows, 11: the class's sum, difference, product. -/
theorem sTr0 (hi lo : Int64) : sTr hi lo 0 = td (V2 hi lo) 63 false := by
  unfold V2
  rw [two_words _ _ (uN_lt' lo)]
  rfl
theorem td_sc (N s k : Nat) : td (N * 2 ^ s) (k + s) false = td N k false := by
  have e : k + s + 1 = (k + 1) + s := by omega
  rw [td_exact, td_exact, e, Nat.pow_add, tr_mul _ _ (Nat.two_pow_pos s)]
theorem td_jam {N s : Nat} (hs : s ≤ 62) (m : Bool) : td (jam N m * 2 ^ s) 63 false = td N (63 - s) m := by
  obtain ⟨k, hk⟩ : ∃ k, 63 - s = k + 1 := ⟨62 - s, by omega⟩
  have e : (63 : Nat) = (k + 1) + s := by omega
  rw [hk]
  have t := td_sc (jam N m) s (k + 1)
  rw [← e, jam_td] at t
  exact t
theorem td_ratio {A b s : Nat} (hb : 0 < b) (hs : s ≤ 62) : td (A * 2 ^ 64 / b) (63 - s) (decide (A * 2 ^ 64 % b ≠ 0)) = tr (A * 2 ^ s) b := by
  obtain ⟨k, hk⟩ : ∃ k, 63 - s = k := ⟨_, rfl⟩
  have e0 : 2 ^ 64 = 2 ^ s * 2 ^ (k + 1) := by rw [← Nat.pow_add]; exact pow_eq (by omega)
  have e : A * 2 ^ 64 = A * 2 ^ s * 2 ^ (k + 1) := by rw [Nat.mul_assoc, ← e0]
  rw [hk, e]
  exact td_floor _ hb k
theorem jam_le (N : Nat) (m : Bool) : jam N m ≤ N + 1 := by
  unfold jam
  split <;> omega
theorem jam_ge (N : Nat) (m : Bool) : N ≤ jam N m := by
  unfold jam
  split <;> omega
theorem p126 : (2 : Nat) ^ 126 = 85070591730234615865843651857942052864 := by decide
theorem add_tot (h0 h1 pl : Nat) : h0 * 2 ^ 63 + jam (h1 * 2 ^ 64 / 2 ^ (pl + 1)) (decide (h1 * 2 ^ 64 % 2 ^ (pl + 1) ≠ 0)) = jam ((h0 * 2 ^ pl + h1) * 2 ^ 64 / 2 ^ (pl + 1)) (decide ((h0 * 2 ^ pl + h1) * 2 ^ 64 % 2 ^ (pl + 1) ≠ 0)) := by
  have e1 : (2 : Nat) ^ 64 = 2 * 2 ^ 63 := by decide
  have e2 : 2 ^ (pl + 1) = 2 ^ pl * 2 := Nat.pow_succ _ _
  have e3 : h0 * 2 ^ pl * 2 ^ 64 = 2 ^ (pl + 1) * (h0 * 2 ^ 63) := by
    rw [e1, e2]
    generalize 2 ^ pl = P
    generalize 2 ^ 63 = C
    ac_rfl
  have e : (h0 * 2 ^ pl + h1) * 2 ^ 64 = h1 * 2 ^ 64 + 2 ^ (pl + 1) * (h0 * 2 ^ 63) := by rw [Nat.add_mul, e3, Nat.add_comm]
  rw [e, Nat.add_mul_div_left _ _ (Nat.two_pow_pos _), Nat.add_mul_mod_self_left, Nat.add_comm (h1 * 2 ^ 64 / 2 ^ (pl + 1)) (h0 * 2 ^ 63), jam_add _ _ _ (even63 _)]
theorem S_add_is {h0 h1 : Int64} {e0 e1 : Int32} {pl : Nat} (hh : 2 ^ 63 ≤ uN h0) (he : e0.toInt = e1.toInt + pl) (b1 : -20000 ≤ e1.toInt) (b2 : e0.toInt ≤ 20000) :
    ∃ (s : Nat) (hi lo : Int64) (ex : Int32), (∃ X, g_S_add h0 0 e0 h1 0 e1 = (hi, lo, ex, X)) ∧ 2 ^ 63 ≤ uN hi ∧ s ≤ 1 ∧ ex.toInt = e0.toInt + 1 - s ∧ sTr hi lo 0 = tr ((uN h0 * 2 ^ pl + uN h1) * 2 ^ s) (2 ^ (pl + 1)) := by
  obtain ⟨x1, x0, xa, xb⟩ := S_shr h0 0 e0 (pl := 1) (n := 1) rfl
  have x1e : (e0 + 1).toInt = e0.toInt + 1 := i32_add1 (by omega)
  have pe : ((e0 + 1) - e1).toInt = (pl + 1 : Nat) := by rw [i32S x1e rfl (by omega) (by omega)]; omega
  obtain ⟨y1, y0, ya, yb⟩ := S_shr h1 0 e1 (pl := (e0 + 1) - e1) (n := pl + 1) pe
  have v0 : V2 h0 0 = uN h0 * 2 ^ 64 := V2_0 h0
  have v1 : V2 h1 0 = uN h1 * 2 ^ 64 := V2_0 h1
  have xv : V2 x1 x0 = uN h0 * 2 ^ 63 := by
    have a : uN h0 * 2 ^ 64 % 2 ^ 1 = 0 := by rw [p64]; omega
    have b : uN h0 * 2 ^ 64 / 2 ^ 1 = uN h0 * 2 ^ 63 := by rw [p64, p63]; omega
    rw [xb, v0, a, b]
    exact jam_false _
  rw [v1] at yb
  have l0 := uN_lt h0
  have l1 := uN_lt h1
  have lt : V2 x1 x0 + V2 y1 y0 < 2 ^ 128 := by
    have j := jam_le (uN h1 * 2 ^ 64 / 2 ^ (pl + 1)) (decide (uN h1 * 2 ^ 64 % 2 ^ (pl + 1) ≠ 0))
    rw [← yb, div_p1] at j
    have d : uN h1 * 2 ^ 64 / 2 / 2 ^ pl ≤ uN h1 * 2 ^ 64 / 2 := Nat.div_le_self _ _
    generalize uN h1 * 2 ^ 64 / 2 / 2 ^ pl = N at j d
    rw [p64] at d
    rw [xv, p63, p128]
    omega
  have ge : 2 ^ 126 ≤ V2 x1 x0 + V2 y1 y0 := by
    rw [xv, p63, p126]
    rw [p63] at hh
    omega
  have wv := V2_add lt
  obtain ⟨s, hi, lo, ex, n1, n2, n3, n4, n5⟩ := S_norm (hi := x1 + (y1 + ((b2i (if uN y0 ≤ uN (x0 + y0) then false else true)).toInt64))) (lo := x0 + y0) (ex := e0 + 1) (by rw [wv]; rw [p126] at ge; omega) (by rw [x1e]; omega) (by rw [x1e]; omega)
  rw [wv] at n4
  have hs : s + 126 ≤ 127 := norm_le n4 (V2_lt _ _) ge (by decide)
  refine ⟨s, hi, lo, ex, ?_, n5, by omega, by rw [n3, x1e], ?_⟩
  · unfold g_S_add
    dsimp only
    rw [xa]
    dsimp only
    rw [ya]
    dsimp only
    rw [n1]
    exact ⟨_, rfl⟩
  · rw [sTr0, n4, xv, yb, add_tot, td_jam (by omega), td_ratio (Nat.two_pow_pos _) (by omega)]
theorem sub_jam {A R P : Nat} (hP : 0 < P) (hA : A % 2 = 0) (h : R ≤ A * P) : jam (R / P) (decide (R % P ≠ 0)) ≤ A ∧ A - jam (R / P) (decide (R % P ≠ 0)) = jam ((A * P - R) / P) (decide ((A * P - R) % P ≠ 0)) := by
  have e := Nat.div_add_mod R P
  have hr := Nat.mod_lt R hP
  generalize R / P = Q at e ⊢
  generalize R % P = r at e hr ⊢
  subst e
  by_cases z : r = 0
  · subst z
    rw [Nat.add_zero] at h ⊢
    have q : Q ≤ A := by
      rw [Nat.mul_comm P Q] at h
      exact Nat.le_of_mul_le_mul_right h hP
    have d0 : decide ((0 : Nat) ≠ 0) = false := rfl
    have e2 : A * P - P * Q = (A - Q) * P := by rw [Nat.sub_mul, Nat.mul_comm P Q]
    rw [d0, jam_false, e2, Nat.mul_div_cancel _ hP, Nat.mul_mod_left, d0, jam_false]
    exact ⟨q, rfl⟩
  · have q : Q < A := by
      apply Nat.lt_of_mul_lt_mul_right (a := P)
      rw [Nat.mul_comm Q P]
      omega
    obtain ⟨t, rfl⟩ : ∃ t, A = t + Q + 1 := ⟨A - Q - 1, by omega⟩
    have e2 : (t + Q + 1) * P - (P * Q + r) = (P - r) + P * t := by
      rw [Nat.add_mul, Nat.add_mul, Nat.one_mul, Nat.mul_comm P Q, Nat.mul_comm P t]
      omega
    have l : P - r < P := by omega
    rw [e2, Nat.add_mul_div_left _ _ hP, Nat.add_mul_mod_self_left, Nat.div_eq_of_lt l, Nat.mod_eq_of_lt l, decide_eq_true (show r ≠ 0 from z), decide_eq_true (show P - r ≠ 0 by omega), jam_true, jam_true]
    by_cases o : Q % 2 = 0
    · rw [if_pos o, if_neg (by omega)]
      omega
    · rw [if_neg o, if_pos (by omega)]
      omega
theorem mod_pow_0 {T pl : Nat} (h : pl ≤ 64) : T * 2 ^ 64 % 2 ^ pl = 0 := by
  have e : 2 ^ 64 = 2 ^ (64 - pl) * 2 ^ pl := pow_split h
  rw [e, ← Nat.mul_assoc]
  exact Nat.mul_mod_left _ _
theorem S_sub_is {h0 h1 : Int64} {e0 e1 : Int32} {pl : Nat} (hh : 2 ^ 63 ≤ uN h0) (he : e0.toInt = e1.toInt + pl) (hle : uN h1 ≤ uN h0 * 2 ^ pl) (b1 : -20000 ≤ e1.toInt) (b2 : e0.toInt ≤ 20000) :
    (uN h0 * 2 ^ pl - uN h1 = 0 → ∃ (hi lo : Int64) (ex : Int32), (∃ X, g_S_subtract h0 0 e0 h1 0 e1 = (hi, lo, ex, X)) ∧ V2 hi lo = 0) ∧ (¬ uN h0 * 2 ^ pl - uN h1 = 0 → ∃ (s : Nat) (hi lo : Int64) (ex : Int32), (∃ X, g_S_subtract h0 0 e0 h1 0 e1 = (hi, lo, ex, X)) ∧ 2 ^ 63 ≤ uN hi ∧ s ≤ 128 ∧ ex.toInt = e0.toInt - s ∧ sTr hi lo 0 = tr ((uN h0 * 2 ^ pl - uN h1) * 2 ^ s) (2 ^ pl)) := by
  have pe : (e0 - e1).toInt = (pl : Nat) := by rw [i32S rfl rfl (by omega) (by omega)]; omega
  obtain ⟨y1, y0, ya, yb⟩ := S_shr h1 0 e1 (pl := e0 - e1) (n := pl) pe
  have v0 : V2 h0 0 = uN h0 * 2 ^ 64 := V2_0 h0
  have v1 : V2 h1 0 = uN h1 * 2 ^ 64 := V2_0 h1
  rw [v1] at yb
  have l0 := uN_lt h0
  have l1 := uN_lt h1
  have eT : uN h0 * 2 ^ 64 * 2 ^ pl - uN h1 * 2 ^ 64 = (uN h0 * 2 ^ pl - uN h1) * 2 ^ 64 := by rw [Nat.sub_mul, Nat.mul_right_comm]
  have hle2 : uN h1 * 2 ^ 64 ≤ uN h0 * 2 ^ 64 * 2 ^ pl := by
    rw [Nat.mul_right_comm]
    exact Nat.mul_le_mul_right _ hle
  obtain ⟨s1, s2⟩ := sub_jam (Nat.two_pow_pos pl) (even64 (uN h0)) hle2
  rw [eT] at s2
  have wv := V2_sub (a1 := h0) (a0 := 0) (b1 := y1) (b0 := y0) (by rw [yb, v0]; exact s1)
  rw [v0, yb, s2] at wv
  have un : ∀ {hi lo : Int64} {ex : Int32}, g_S_normalize (h0 - (y1 + ((b2i (if uN y0 ≤ uN 0 then false else true)).toInt64))) (0 - y0) e0 = (hi, lo, ex) → ∃ X, g_S_subtract h0 0 e0 h1 0 e1 = (hi, lo, ex, X) := by
    intro hi lo ex n1
    unfold g_S_subtract
    dsimp only
    rw [ya]
    dsimp only
    rw [n1]
    exact ⟨_, rfl⟩
  constructor
  · intro hT
    rw [hT, Nat.zero_mul, Nat.zero_div, Nat.zero_mod] at wv
    have wz : V2 (h0 - (y1 + ((b2i (if uN y0 ≤ uN 0 then false else true)).toInt64))) (0 - y0) = 0 := wv
    exact ⟨_, _, _, un (S_norm0 e0 wz), wz⟩
  · intro hT
    have nz : ¬ jam ((uN h0 * 2 ^ pl - uN h1) * 2 ^ 64 / 2 ^ pl) (decide ((uN h0 * 2 ^ pl - uN h1) * 2 ^ 64 % 2 ^ pl ≠ 0)) = 0 := by
      intro q
      by_cases m : (uN h0 * 2 ^ pl - uN h1) * 2 ^ 64 % 2 ^ pl ≠ 0
      · rw [decide_eq_true m] at q
        have := jam_odd ((uN h0 * 2 ^ pl - uN h1) * 2 ^ 64 / 2 ^ pl)
        rw [q] at this
        exact absurd this (by decide)
      · rw [decide_eq_false m, jam_false] at q
        have e := Nat.div_add_mod ((uN h0 * 2 ^ pl - uN h1) * 2 ^ 64) (2 ^ pl)
        rw [q, Classical.not_not.mp m, Nat.mul_zero, p64] at e
        omega
    obtain ⟨s, hi, lo, ex, n1, n2, n3, n4, n5⟩ := S_norm (ex := e0) (by rw [wv]; exact nz) (by omega) (by omega)
    refine ⟨s, hi, lo, ex, un n1, n5, n2, n3, ?_⟩
    rw [sTr0, n4, wv]
    by_cases m : (uN h0 * 2 ^ pl - uN h1) * 2 ^ 64 % 2 ^ pl ≠ 0
    · have pl6 : 65 ≤ pl := by
        apply Classical.byContradiction
        intro q
        exact m (mod_pow_0 (by omega))
      have ge : 2 ^ 126 ≤ jam ((uN h0 * 2 ^ pl - uN h1) * 2 ^ 64 / 2 ^ pl) (decide ((uN h0 * 2 ^ pl - uN h1) * 2 ^ 64 % 2 ^ pl ≠ 0)) := by
        rw [← s2]
        have j := jam_le (uN h1 * 2 ^ 64 / 2 ^ pl) (decide (uN h1 * 2 ^ 64 % 2 ^ pl ≠ 0))
        have d : uN h1 * 2 ^ 64 / 2 ^ pl ≤ uN h1 * 2 ^ 64 / 2 ^ 65 := Nat.div_le_div_left (Nat.pow_le_pow_right (by decide) pl6) (by decide)
        have p65 : (2 : Nat) ^ 65 = 36893488147419103232 := by decide
        generalize jam (uN h1 * 2 ^ 64 / 2 ^ pl) (decide (uN h1 * 2 ^ 64 % 2 ^ pl ≠ 0)) = J at j ⊢
        generalize uN h1 * 2 ^ 64 / 2 ^ pl = N at j d
        rw [p64, p65] at d
        rw [p63] at hh
        rw [p64, p126]
        omega
      rw [wv] at n4
      have hs : s + 126 ≤ 127 := norm_le n4 (V2_lt _ _) ge (by decide)
      rw [td_jam (by omega), td_ratio (Nat.two_pow_pos _) (by omega)]
    · rw [decide_eq_false m, jam_false, td_exact]
      apply tr_cross (Nat.two_pow_pos _) (Nat.two_pow_pos _)
      have e := Nat.div_add_mod ((uN h0 * 2 ^ pl - uN h1) * 2 ^ 64) (2 ^ pl)
      rw [Classical.not_not.mp m, Nat.add_zero] at e
      generalize (uN h0 * 2 ^ pl - uN h1) * 2 ^ 64 / 2 ^ pl = N at e ⊢
      have e9 : (2 : Nat) ^ (63 + 1) = 2 ^ 64 := rfl
      rw [e9]
      rw [Nat.mul_right_comm N, Nat.mul_comm N, e, Nat.mul_right_comm]
theorem S_mul_is {h0 h1 : Int64} {e0 e1 : Int32} (nz : ¬ uN h0 * uN h1 = 0) (a1 : -100000 ≤ e0.toInt) (a2 : e0.toInt ≤ 100000) (b1 : -100000 ≤ e1.toInt) (b2 : e1.toInt ≤ 100000) :
    ∃ (s : Nat) (hi lo : Int64) (ex : Int32), g_S_multiply h0 e0 h1 e1 = (hi, lo, ex) ∧ 2 ^ 63 ≤ uN hi ∧ s ≤ 128 ∧ ex.toInt = e0.toInt + e1.toInt + 64 - s ∧ V2 hi lo = uN h0 * uN h1 * 2 ^ s := by
  have x1 : (e1 + 64).toInt = e1.toInt + 64 := i32A rfl rfl (by omega) (by omega)
  have x2 : (e0 + (e1 + 64)).toInt = e0.toInt + (e1.toInt + 64) := i32A rfl x1 (by omega) (by omega)
  have pv := S_prod h0 h1
  obtain ⟨s, hi, lo, ex, n1, n2, n3, n4, n5⟩ := S_norm (ex := e0 + (e1 + 64)) (by rw [pv]; exact nz) (by rw [x2]; omega) (by rw [x2]; omega)
  refine ⟨s, hi, lo, ex, ?_, n5, n2, by rw [n3, x2]; omega, by rw [n4, pv]⟩
  unfold g_S_multiply
  dsimp only
  rw [n1]
theorem S_mul_0 {h0 h1 : Int64} (e0 e1 : Int32) (z : uN h0 * uN h1 = 0) : ∃ (hi lo : Int64) (ex : Int32), g_S_multiply h0 e0 h1 e1 = (hi, lo, ex) ∧ V2 hi lo = 0 := by
  have pv := S_prod h0 h1
  rw [z] at pv
  refine ⟨_, _, -20000, ?_, pv⟩
  unfold g_S_multiply
  dsimp only
  rw [S_norm0 _ pv]
