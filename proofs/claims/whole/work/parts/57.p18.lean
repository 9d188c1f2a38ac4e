/-! Pure rows, 18: sums. -/
/-- a size of the class that has no low word, and the number it stands for, counted in units of 2^-20000 -/
def Rz (h : Int64) (e : Int32) (v : Nat) : Prop :=
  uN h * 2 ^ (e.toInt + 20000).toNat = v ∧ -20000 ≤ e.toInt ∧ e.toInt ≤ 16400 ∧ (2 ^ 63 ≤ uN h ∨ (uN h = 0 ∧ e.toInt = -20000))
def vOf (p : Int32) (f : Int64) : Nat := uN f * 2 ^ (uT p + 20000).toNat
theorem take_Rz {p : Int32} {f : Int64} (h0 : 0 ≤ p.toInt) (h1 : p.toInt ≤ 32767) : ∃ (h : Int64) (e : Int32), g_S_take p f = (h, 0, e) ∧ Rz h e (vOf p f) := by
  have r := uT_rng h0 h1
  by_cases z : f = 0
  · refine ⟨0, -20000, by rw [z]; exact S_take_0 p, ?_, by decide, by decide, Or.inr ⟨rfl, by decide⟩⟩
    have u0 : uN 0 = 0 := rfl
    unfold vOf
    rw [z, u0, Nat.zero_mul, Nat.zero_mul]
  · obtain ⟨s, h, e, t, l, x, v, w⟩ := S_take_is h0 h1 z
    refine ⟨h, e, t, ?_, by omega, by omega, Or.inl w⟩
    unfold vOf
    rw [v, Nat.mul_assoc, ← Nat.pow_add]
    congr 1
    exact pow_eq (by omega)
theorem Rz_lt {h1 h2 : Int64} {e1 e2 : Int32} {v1 v2 : Nat} (r1 : Rz h1 e1 v1) (r2 : Rz h2 e2 v2) (h : e1.toInt < e2.toInt) : v1 < v2 := by
  obtain ⟨a1, a2, a3, a4⟩ := r1
  obtain ⟨b1, b2, b3, b4⟩ := r2
  have l := uN_lt' h1
  have w : 2 ^ 63 ≤ uN h2 := by
    rcases b4 with q | q
    · exact q
    · omega
  rw [← a1, ← b1]
  have s1 : uN h1 * 2 ^ (e1.toInt + 20000).toNat < 2 ^ 64 * 2 ^ (e1.toInt + 20000).toNat := Nat.mul_lt_mul_of_pos_right l (Nat.two_pow_pos _)
  have s2 : 2 ^ 63 * 2 ^ (e2.toInt + 20000).toNat ≤ uN h2 * 2 ^ (e2.toInt + 20000).toNat := Nat.mul_le_mul_right _ w
  have s3 : 2 ^ 64 * 2 ^ (e1.toInt + 20000).toNat ≤ 2 ^ 63 * 2 ^ (e2.toInt + 20000).toNat := by
    rw [← Nat.pow_add, ← Nat.pow_add]
    exact Nat.pow_le_pow_right (by decide) (by omega)
  exact Nat.lt_of_lt_of_le s1 (Nat.le_trans s3 s2)
theorem less_Rz {h1 h2 : Int64} {e1 e2 : Int32} {v1 v2 : Nat} (r1 : Rz h1 e1 v1) (r2 : Rz h2 e2 v2) : g_S_isLessThan h1 e1 h2 e2 = decide (v1 < v2) := by
  unfold g_S_isLessThan
  by_cases c : e1 = e2
  · rw [if_pos c]
    have hp : 0 < 2 ^ (e2.toInt + 20000).toNat := Nat.two_pow_pos _
    have a1 := r1.1
    have b1 := r2.1
    rw [c] at a1
    rw [← a1, ← b1]
    by_cases q : uN h2 ≤ uN h1
    · rw [if_pos q, decide_eq_false (Nat.not_lt.mpr (Nat.mul_le_mul_right _ q))]
    · rw [if_neg q, decide_eq_true (Nat.mul_lt_mul_of_pos_right (by omega) hp)]
  · have c' : ¬ e1.toInt = e2.toInt := fun q => c (Int32.toInt_inj.mp q)
    rw [if_neg c]
    by_cases q : e2 ≤ e1
    · have q' := Int32.le_iff_toInt_le.mp q
      have := Rz_lt r2 r1 (by omega)
      rw [if_pos q, decide_eq_false (by omega)]
    · have q' := mt Int32.le_iff_toInt_le.mpr q
      have := Rz_lt r1 r2 (by omega)
      rw [if_neg q, decide_eq_true (by omega)]
/-- the greater has the greater exponent -/
theorem Rz_le {h1 h2 : Int64} {e1 e2 : Int32} {v1 v2 : Nat} (r1 : Rz h1 e1 v1) (r2 : Rz h2 e2 v2) (h : v1 ≤ v2) : e1.toInt ≤ e2.toInt := by
  apply Classical.byContradiction
  intro q
  have := Rz_lt r2 r1 (by omega)
  omega
theorem Rz_big {h : Int64} {e : Int32} {v : Nat} (r : Rz h e v) (hv : ¬ v = 0) : 2 ^ 63 ≤ uN h := by
  obtain ⟨a1, _, _, a4⟩ := r
  rcases a4 with q | q
  · exact q
  · rw [q.1, Nat.zero_mul] at a1
    exact absurd a1.symm hv
theorem Rz_zero {h : Int64} {e : Int32} {v : Nat} (r : Rz h e v) (hv : v = 0) : h = 0 ∧ e = -20000 := by
  obtain ⟨a1, _, _, a4⟩ := r
  rcases a4 with q | q
  · rw [hv] at a1
    rcases Nat.mul_eq_zero.mp a1 with z | z
    · rw [z] at q; exact absurd q (by decide)
    · have := Nat.two_pow_pos (e.toInt + 20000).toNat
      omega
  · exact ⟨uN_z.mpr q.1, Int32.toInt_inj.mp (by rw [q.2]; decide)⟩
theorem AG_add {hG hL : Int64} {eG eL : Int32} {vG vL : Nat} (rG : Rz hG eG vG) (rL : Rz hL eL vL) (hv : ¬ vG = 0) (hle : vL ≤ vG) {un z : Int32} (u0 : -20000 ≤ un.toInt) (u1 : un.toInt ≤ 20000) (hz : okz z) {row : Nat → Bool} (hrow : bN row z.toInt.toNat * 2 ^ (un.toInt + 20000).toNat = vG + vL) :
    ∃ (hi lo : Int64) (ex : Int32), (∃ X, g_S_add hG 0 eG hL 0 eL = (hi, lo, ex, X)) ∧ AG hi lo ex z un false row := by
  have he := Rz_le rL rG hle
  have hb := Rz_big rG hv
  obtain ⟨a1, a2, a3, _⟩ := rG
  obtain ⟨b1, b2, b3, _⟩ := rL
  obtain ⟨pl, hpl⟩ : ∃ pl : Nat, eG.toInt = eL.toInt + pl := ⟨(eG.toInt - eL.toInt).toNat, by omega⟩
  obtain ⟨s, hi, lo, ex, gX, gh, gs, gx, gv⟩ := S_add_is (h1 := hL) hb hpl b2 (by omega)
  obtain ⟨E, hE⟩ : ∃ E : Nat, eL.toInt + 20000 = E := ⟨(eL.toInt + 20000).toNat, by omega⟩
  obtain ⟨U, hU⟩ : ∃ U : Nat, un.toInt + 20000 = U := ⟨(un.toInt + 20000).toNat, by omega⟩
  refine ⟨hi, lo, ex, gX, hz, gh, ⟨by omega, by omega⟩, ⟨by omega, by omega⟩, U + s, E + pl, by omega, ?_⟩
  have eg : (eG.toInt + 20000).toNat = pl + E := by omega
  have el : (eL.toInt + 20000).toNat = E := by omega
  have eu : (un.toInt + 20000).toNat = U := by omega
  rw [eg, Nat.pow_add, ← Nat.mul_assoc] at a1
  rw [el] at b1
  rw [eu, ← a1, ← b1, ← Nat.add_mul] at hrow
  rw [gv, td_exact, Nat.pow_add, ← Nat.mul_assoc, hrow]
  have e1 : 2 ^ (E + pl + 1) = 2 ^ (pl + 1) * 2 ^ E := by rw [← Nat.pow_add]; exact pow_eq (by omega)
  rw [e1, Nat.mul_right_comm, tr_mul _ _ (Nat.two_pow_pos E)]
theorem AG_sub {hG hL : Int64} {eG eL : Int32} {vG vL : Nat} (rG : Rz hG eG vG) (rL : Rz hL eL vL) (hv : ¬ vG = 0) (hle : vL ≤ vG) {un z : Int32} (u0 : -20000 ≤ un.toInt) (u1 : un.toInt ≤ 20000) (hz : okz z) {row : Nat → Bool} (hrow : bN row z.toInt.toNat * 2 ^ (un.toInt + 20000).toNat = vG - vL) :
    (vG = vL → ∃ (hi lo : Int64) (ex : Int32), (∃ X, g_S_subtract hG 0 eG hL 0 eL = (hi, lo, ex, X)) ∧ V2 hi lo = 0) ∧ (¬ vG = vL → ∃ (hi lo : Int64) (ex : Int32), (∃ X, g_S_subtract hG 0 eG hL 0 eL = (hi, lo, ex, X)) ∧ AG hi lo ex z un false row) := by
  have he := Rz_le rL rG hle
  have hb := Rz_big rG hv
  obtain ⟨a1, a2, a3, _⟩ := rG
  obtain ⟨b1, b2, b3, _⟩ := rL
  obtain ⟨pl, hpl⟩ : ∃ pl : Nat, eG.toInt = eL.toInt + pl := ⟨(eG.toInt - eL.toInt).toNat, by omega⟩
  obtain ⟨E, hE⟩ : ∃ E : Nat, eL.toInt + 20000 = E := ⟨(eL.toInt + 20000).toNat, by omega⟩
  obtain ⟨U, hU⟩ : ∃ U : Nat, un.toInt + 20000 = U := ⟨(un.toInt + 20000).toNat, by omega⟩
  have eg : (eG.toInt + 20000).toNat = pl + E := by omega
  have el : (eL.toInt + 20000).toNat = E := by omega
  have eu : (un.toInt + 20000).toNat = U := by omega
  rw [eg, Nat.pow_add, ← Nat.mul_assoc] at a1
  rw [el] at b1
  have pE := Nat.two_pow_pos E
  have hl2 : uN hL ≤ uN hG * 2 ^ pl := by
    rw [← a1, ← b1] at hle
    exact Nat.le_of_mul_le_mul_right hle pE
  rw [eu, ← a1, ← b1, ← Nat.sub_mul] at hrow
  obtain ⟨g0, g1⟩ := S_sub_is (h1 := hL) hb hpl hl2 b2 (by omega)
  constructor
  · intro q
    rw [← a1, ← b1] at q
    have := Nat.eq_of_mul_eq_mul_right pE q
    exact g0 (by omega)
  · intro q
    obtain ⟨s, hi, lo, ex, gX, gh, gs, gx, gv⟩ := g1 (by
      intro w
      apply q
      rw [← a1, ← b1]
      have : uN hG * 2 ^ pl = uN hL := by omega
      rw [this])
    refine ⟨hi, lo, ex, gX, hz, gh, ⟨by omega, by omega⟩, ⟨by omega, by omega⟩, U + (s + 1), E + pl, by omega, ?_⟩
    rw [gv, td_exact, Nat.pow_add, ← Nat.mul_assoc, hrow]
    have e1 : 2 ^ (E + pl + 1) = 2 ^ pl * 2 ^ (E + 1) := by rw [← Nat.pow_add]; exact pow_eq (by omega)
    have e2 : (uN hG * 2 ^ pl - uN hL) * 2 ^ E * 2 ^ (s + 1) = (uN hG * 2 ^ pl - uN hL) * 2 ^ s * 2 ^ (E + 1) := by
      rw [Nat.mul_assoc, Nat.mul_assoc, ← Nat.pow_add, ← Nat.pow_add]
      congr 1
      exact pow_eq (by omega)
    rw [e1, e2, tr_mul _ _ (Nat.two_pow_pos _)]
/-! the reference's row of a sum -/
theorem sum_row {rb : Nat → Bool} {a0 a1 n : Nat} (hn : n = a0 + a1 + 66) (hn2 : n ≤ 33000) (f0 f1 : Int64) :
    bN (g_M_join (nI n) (g_M_join (nI n) (g_M_empty rb (nI n)) f0 (nI a0) false) f1 (nI a1) false) n = uN f0 * 2 ^ a0 + uN f1 * 2 ^ a1 ∧ (uN f1 * 2 ^ a1 ≤ uN f0 * 2 ^ a0 → bN (g_M_join (nI n) (g_M_join (nI n) (g_M_empty rb (nI n)) f0 (nI a0) false) f1 (nI a1) true) n = uN f0 * 2 ^ a0 - uN f1 * 2 ^ a1) := by
  have e0 := empty_nI rb hn2
  have big : ∀ (f : Int64) {a : Nat}, a + 65 ≤ n → 2 * (uN f * 2 ^ a) < 2 ^ n := by
    intro f a ha
    have e : 2 ^ (a + 65) = 2 * (2 ^ 64 * 2 ^ a) := by
      have e1 : 2 ^ (a + 65) = 2 ^ 1 * (2 ^ 64 * 2 ^ a) := by rw [← Nat.pow_add, ← Nat.pow_add]; exact pow_eq (by omega)
      rw [e1]
    have l : uN f * 2 ^ a < 2 ^ 64 * 2 ^ a := Nat.mul_lt_mul_of_pos_right (uN_lt' f) (Nat.two_pow_pos a)
    have g : 2 ^ (a + 65) ≤ 2 ^ n := Nat.pow_le_pow_right (by decide) ha
    omega
  have g0 := big f0 (a := a0) (by omega)
  have g1 := big f1 (a := a1) (by omega)
  have j0 : bN (g_M_join (nI n) (g_M_empty rb (nI n)) f0 (nI a0) false) n = uN f0 * 2 ^ a0 := by
    rw [join_add (by omega) hn2 _ f0 (by rw [e0]; omega), e0, Nat.zero_add]
  constructor
  · rw [join_add (by omega) hn2 _ f1 (by rw [j0]; omega), j0]
  · intro h
    rw [join_sub (by omega) hn2 _ f1 (by rw [j0]; exact h), j0]
