/-! Pure rows, 17: product, quotient and root: the class's size and the reference's row agree. -/
theorem AG_mul {p1 p2 : Int32} {f1 f2 : Int64} (a0 : 0 ≤ p1.toInt) (a1 : p1.toInt ≤ 32767) (b0 : 0 ≤ p2.toInt) (b1 : p2.toInt ≤ 32767) (hf1 : ¬ f1 = 0) (hf2 : ¬ f2 = 0) {un : Int32} (hu : un.toInt = uT p1 + uT p2) {row : Nat → Bool} (hrow : bN row 130 = uN f1 * uN f2) :
    ∃ (hi lo : Int64) (ex : Int32), g_S_multiply (g_S_take p1 f1).1 (g_S_take p1 f1).2.2 (g_S_take p2 f2).1 (g_S_take p2 f2).2.2 = (hi, lo, ex) ∧ AG hi lo ex 130 un false row := by
  have r1 := uT_rng a0 a1
  have r2 := uT_rng b0 b1
  obtain ⟨s1, h1, e1, t1, l1, x1, v1, w1⟩ := S_take_is a0 a1 hf1
  obtain ⟨s2, h2, e2, t2, l2, x2, v2, w2⟩ := S_take_is b0 b1 hf2
  rw [t1, t2]
  dsimp only
  have nz : ¬ uN h1 * uN h2 = 0 := by
    intro q
    rcases Nat.mul_eq_zero.mp q with z | z
    · rw [z] at w1; exact absurd w1 (by decide)
    · rw [z] at w2; exact absurd w2 (by decide)
  obtain ⟨s, hi, lo, ex, g, gh, gs, gx, gv⟩ := S_mul_is (e0 := e1) (e1 := e2) nz (by omega) (by omega) (by omega) (by omega)
  refine ⟨hi, lo, ex, g, okz_130, gh, ⟨by omega, by omega⟩, ⟨by omega, by omega⟩, s1 + s2 + s, 63, by omega, ?_⟩
  have z : (130 : Int32).toInt.toNat = 130 := rfl
  rw [z, hrow, sTr0, gv, v1, v2]
  congr 1
  rw [Nat.pow_add, Nat.pow_add]
  generalize 2 ^ s1 = A
  generalize 2 ^ s2 = B
  generalize 2 ^ s = C
  ac_rfl
theorem AG_div {p1 p2 : Int32} {f1 f2 : Int64} (a0 : 0 ≤ p1.toInt) (a1 : p1.toInt ≤ 32767) (b0 : 0 ≤ p2.toInt) (b1 : p2.toInt ≤ 32767) (hf1 : ¬ f1 = 0) (hf2 : ¬ f2 = 0) {un : Int32} (hu : un.toInt = uT p1 - uT p2 - 136) {row : Nat → Bool} {mo : Bool} (hrow : bN row 200 = uN f1 * 2 ^ 136 / uN f2) (hmo : mo = decide (uN f1 * 2 ^ 136 % uN f2 ≠ 0)) :
    ∃ (hi lo : Int64) (ex : Int32), g_S_divide (g_S_take p1 f1).1 (g_S_take p1 f1).2.2 (g_S_take p2 f2).1 (g_S_take p2 f2).2.2 = (hi, lo, ex) ∧ AG hi lo ex 200 un mo row := by
  have r1 := uT_rng a0 a1
  have r2 := uT_rng b0 b1
  obtain ⟨s1, h1, e1, t1, l1, x1, v1, w1⟩ := S_take_is a0 a1 hf1
  obtain ⟨s2, h2, e2, t2, l2, x2, v2, w2⟩ := S_take_is b0 b1 hf2
  rw [t1, t2]
  dsimp only
  obtain ⟨s, hi, lo, ex, g, gh, gs, gx, gv⟩ := S_div_is (e0 := e1) (e1 := e2) w1 w2 (by omega) (by omega) (by omega) (by omega)
  obtain ⟨k, hk⟩ : ∃ k : Nat, k + s1 + s = 72 + s2 := ⟨72 + s2 - s1 - s, by omega⟩
  refine ⟨hi, lo, ex, g, okz_200, gh, ⟨by omega, by omega⟩, ⟨by omega, by omega⟩, 0, k, by omega, ?_⟩
  have z : (200 : Int32).toInt.toNat = 200 := rfl
  have fp : 0 < uN f2 := by
    rw [uN_z] at hf2
    omega
  have e136 : 2 ^ 136 = 2 ^ (135 - k) * 2 ^ (k + 1) := by rw [← Nat.pow_add]; exact pow_eq (by omega)
  have ef : uN f1 * 2 ^ 136 = uN f1 * 2 ^ (135 - k) * 2 ^ (k + 1) := by rw [Nat.mul_assoc, ← e136]
  have hp : 0 < uN h2 := by
    rw [p63] at w2
    omega
  rw [z, hrow, hmo, Nat.pow_zero, Nat.mul_one, gv, ef, td_floor _ fp]
  apply tr_cross fp hp
  rw [v1, v2]
  have e1 : 2 ^ (135 - k) * 2 ^ s2 = 2 ^ s1 * 2 ^ 63 * 2 ^ s := by
    rw [← Nat.pow_add, ← Nat.pow_add, ← Nat.pow_add]
    exact pow_eq (by omega)
  have l : uN f1 * 2 ^ (135 - k) * (uN f2 * 2 ^ s2) = uN f1 * uN f2 * (2 ^ (135 - k) * 2 ^ s2) := by
    generalize 2 ^ (135 - k) = A
    generalize 2 ^ s2 = B
    ac_rfl
  have r : uN f1 * 2 ^ s1 * 2 ^ 63 * 2 ^ s * uN f2 = uN f1 * uN f2 * (2 ^ s1 * 2 ^ 63 * 2 ^ s) := by
    generalize 2 ^ s1 = A
    generalize 2 ^ s = B
    generalize 2 ^ 63 = C
    ac_rfl
  rw [l, r, e1]
/-- a root of more digits, cut -/
theorem root_td {F Sq B R k : Nat} (f1 : F * F ≤ Sq) (f2 : Sq < (F + 1) * (F + 1)) (b1 : Sq * (2 ^ (k + 1) * 2 ^ (k + 1)) = B * B + R) (b2 : R ≤ 2 * B) : td B k (decide (R ≠ 0)) = (F, decide (F < Sq - F * F), decide (Sq - F * F ≠ 0)) := by
  have hp : 0 < 2 ^ k := Nat.two_pow_pos k
  have eP : 2 ^ (k + 1) = 2 * 2 ^ k := by rw [Nat.pow_succ (n := 2) (m := k), Nat.mul_comm]
  have bb : B * B + R < (B + 1) * (B + 1) := by
    rw [Nat.add_mul, Nat.mul_add]
    omega
  unfold td
  rw [eP] at b1 ⊢
  generalize 2 ^ k = P at hp b1 ⊢
  have e4 : Sq * (2 * P * (2 * P)) = 4 * Sq * (P * P) := by
    rw [sq_dbl, ← Nat.mul_assoc, Nat.mul_comm Sq 4]
  rw [e4] at b1
  have pp : 0 < P * P := Nat.mul_pos hp hp
  have sqm : ∀ t : Nat, (t * P) * (t * P) = (t * t) * (P * P) := fun t => Nat.mul_mul_mul_comm t P t P
  -- t * P <= B iff t * t <= 4 * Sq
  have cmp : ∀ t : Nat, t * P ≤ B ↔ t * t ≤ 4 * Sq := by
    intro t
    constructor
    · intro h
      have := Nat.mul_le_mul h h
      rw [sqm] at this
      have : t * t * (P * P) ≤ 4 * Sq * (P * P) := by rw [b1]; omega
      exact Nat.le_of_mul_le_mul_right this pp
    · intro h
      have h1 : t * t * (P * P) ≤ 4 * Sq * (P * P) := Nat.mul_le_mul_right _ h
      rw [← sqm, b1] at h1
      have h2 : (t * P) * (t * P) < (B + 1) * (B + 1) := Nat.lt_of_le_of_lt h1 bb
      have := Nat.mul_self_lt_mul_self_iff.mp h2
      omega
  have g2 : (2 * F) * P ≤ B := (cmp (2 * F)).mpr (by rw [sq_dbl]; omega)
  have g3 : ¬ (2 * (F + 1)) * P ≤ B := fun q => by
    have := (cmp (2 * (F + 1))).mp q
    rw [sq_dbl] at this
    omega
  have g4 : (2 * F + 1) * P ≤ B ↔ F < Sq - F * F := by
    rw [cmp, sq_dbl1]
    omega
  have d2 : B / (2 * P) = F := by
    apply Nat.le_antisymm
    · have : B / (2 * P) < F + 1 := by
        rw [Nat.div_lt_iff_lt_mul (by omega)]
        have e : (F + 1) * (2 * P) = 2 * (F + 1) * P := by ac_rfl
        rw [e]
        omega
      omega
    · rw [Nat.le_div_iff_mul_le (by omega)]
      have e : F * (2 * P) = 2 * F * P := by ac_rfl
      rw [e]
      exact g2
  have dP : B / P = 2 * F ∨ B / P = 2 * F + 1 := by
    have : B / (2 * P) = B / P / 2 := by rw [Nat.mul_comm 2 P, Nat.div_div_eq_div_mul]
    omega
  have d1 : (B / P % 2 = 1) ↔ F < Sq - F * F := by
    rw [← g4, ← Nat.le_div_iff_mul_le hp]
    omega
  have d0 : (decide (R ≠ 0) || decide (B % P ≠ 0)) = decide (Sq - F * F ≠ 0) := by
    have hm := Nat.div_add_mod B P
    by_cases q : Sq - F * F = 0
    · have eS : 4 * Sq = 2 * F * (2 * F) := by rw [sq_dbl]; omega
      have hB : B = 2 * F * P := by
        apply Nat.le_antisymm _ g2
        apply Classical.byContradiction
        intro w
        have w2 : (2 * F) * P + 1 ≤ B := by omega
        have := Nat.mul_le_mul w2 w2
        rw [eS, ← sqm] at b1
        rw [Nat.add_mul, Nat.mul_add] at this
        omega
      have hR : R = 0 := by
        rw [eS, ← sqm, ← hB] at b1
        omega
      have hM : B % P = 0 := by rw [hB]; exact Nat.mul_mod_left _ _
      rw [hR, hM, q]
      rfl
    · rw [decide_eq_true (show Sq - F * F ≠ 0 from q)]
      by_cases r : R = 0
      · by_cases m : B % P = 0
        · exfalso
          rw [m, Nat.add_zero, Nat.mul_comm] at hm
          rw [r, Nat.add_zero, ← hm, sqm] at b1
          have e := Nat.eq_of_mul_eq_mul_right pp b1
          rcases dP with w | w
          · rw [w, sq_dbl] at e
            omega
          · rw [w, sq_dbl1] at e
            omega
        · rw [decide_eq_true (show B % P ≠ 0 from m), Bool.or_true]
      · rw [decide_eq_true (show R ≠ 0 from r), Bool.true_or]
  rw [d2, decide_eq_decide.mpr d1, d0]
theorem AG_root {p1 : Int32} {f1 : Int64} (a0 : 0 ≤ p1.toInt) (a1 : p1.toInt ≤ 32767) (hf1 : ¬ f1 = 0) {un : Int32} {o' : Nat} (ho' : o' ≤ 1) (ho2 : (uT p1 - o') % 2 = 0) (hu : un.toInt = (uT p1 - o') / 2 - 70) {row : Nat → Bool} {R : Nat} (hrow : uN f1 * 2 ^ (140 + o') = bN row 104 * bN row 104 + R) (hR : R ≤ 2 * bN row 104) :
    ∃ (hi lo : Int64) (ex : Int32), g_S_takeRoot (g_S_take p1 f1).1 (g_S_take p1 f1).2.1 (g_S_take p1 f1).2.2 = (hi, lo, ex) ∧ AG hi lo ex 104 un (decide (R ≠ 0)) row := by
  have r1 := uT_rng a0 a1
  obtain ⟨s1, h1, e1, t1, l1, x1, v1, w1⟩ := S_take_is a0 a1 hf1
  rw [t1]
  dsimp only
  obtain ⟨hi, lo, ex, o, Sq, g, go, go2, gx, gS, gh, k1, k2, gv⟩ := S_root_is (e := e1) w1 (by omega) (by omega)
  obtain ⟨k, hk⟩ : ∃ k : Nat, 2 * (k + 1) + s1 = 76 + o + o' := ⟨(76 + o + o' - s1) / 2 - 1, by omega⟩
  refine ⟨hi, lo, ex, g, okz_104, gh, ⟨by omega, by omega⟩, ⟨by omega, by omega⟩, 0, k, by omega, ?_⟩
  have z : (104 : Int32).toInt.toNat = 104 := rfl
  rw [z, Nat.pow_zero, Nat.mul_one, gv]
  refine root_td k1 k2 ?_ hR
  rw [← hrow]
  -- Sq * 4^(k+1) = f * 2^(140+o')
  apply Nat.eq_of_mul_eq_mul_right (Nat.two_pow_pos o)
  rw [Nat.mul_right_comm, gS, v1]
  have e : 2 ^ s1 * 2 ^ 64 * (2 ^ (k + 1) * 2 ^ (k + 1)) = 2 ^ (140 + o') * 2 ^ o := by
    rw [← Nat.pow_add, ← Nat.pow_add, ← Nat.pow_add, ← Nat.pow_add]
    exact pow_eq (by omega)
  rw [Nat.mul_assoc, Nat.mul_assoc, Nat.mul_assoc, ← e]
  generalize 2 ^ s1 = A
  generalize 2 ^ (k + 1) = B
  generalize 2 ^ 64 = C
  ac_rfl
