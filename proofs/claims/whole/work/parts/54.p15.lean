/-! Pure rows, 15: the reference's quotient's row. -/
theorem M_below_is (a b : Int64) : g_M_below a b = decide (uN a < uN b) := by
  have la := uN_lt a
  have lb := uN_lt b
  have ia := i64_lt0 a
  have ib := i64_lt0 b
  have le : (b ≤ a) ↔ b.toInt ≤ a.toInt := Int64.le_iff_toInt_le
  rw [uN_int, uN_int] at le
  rw [p63] at ia ib
  unfold g_M_below
  dsimp only
  by_cases ca : a < 0
  · have qa := ia.mp ca
    rw [if_pos ca]
    by_cases cb : b < 0
    · have qb := ib.mp cb
      rw [if_pos cb, if_pos rfl]
      rw [if_neg (by omega), if_neg (by omega)] at le
      by_cases c : b ≤ a
      · have := le.mp c
        rw [if_pos c, decide_eq_false (by omega)]
      · have := mt le.mpr c
        rw [if_neg c, decide_eq_true (by omega)]
    · have qb := mt ib.mpr cb
      rw [if_neg cb, if_neg (by decide), decide_eq_false (by omega)]
  · have qa := mt ia.mpr ca
    rw [if_neg ca]
    by_cases cb : b < 0
    · have qb := ib.mp cb
      rw [if_pos cb, if_neg (by decide), decide_eq_true (by omega)]
    · have qb := mt ib.mpr cb
      rw [if_neg cb, if_pos rfl]
      rw [if_pos (by omega), if_pos (by omega)] at le
      by_cases c : b ≤ a
      · have := le.mp c
        rw [if_pos c, decide_eq_false (by omega)]
      · have := mt le.mpr c
        rw [if_neg c, decide_eq_true (by omega)]
theorem bN0_bits {f : Nat → Bool} {n : Nat} (h : bN f n = 0) : ∀ k, k < n → f k = false := by
  intro k hk
  have := bN_bit f n k
  rw [h, Nat.zero_testBit, decide_eq_true hk, Bool.true_and] at this
  exact this.symm
theorem bN_upd {f : Nat → Bool} {n k : Nat} (hk : k < n) (h : f k = false) (b : Bool) : bN (updB f k b) n = bN f n + (if b = true then 2 ^ k else 0) := by
  induction n with
  | zero => omega
  | succ n ih =>
    show bN (updB f k b) n + (if updB f k b n = true then 2 ^ n else 0) = bN f n + (if f n = true then 2 ^ n else 0) + _
    by_cases q : k = n
    · subst q
      have e : updB f k b k = b := by unfold updB; rw [if_pos rfl]
      rw [bN_set f k k b (Nat.le_refl k), e, h, if_neg nff, Nat.add_zero]
    · have e : updB f k b n = f n := by unfold updB; rw [if_neg (fun w => q w.symm)]
      rw [ih (by omega), e]
      omega
theorem dig_step {X d : Nat} (hd : 0 < d) : (d ≤ 2 * (X / 2 % d) + X % 2 → X / d = 2 * (X / 2 / d) + 1 ∧ X % d + d = 2 * (X / 2 % d) + X % 2) ∧ (¬ d ≤ 2 * (X / 2 % d) + X % 2 → X / d = 2 * (X / 2 / d) ∧ X % d = 2 * (X / 2 % d) + X % 2) := by
  have e := Nat.div_add_mod (X / 2) d
  have l := Nat.mod_lt (X / 2) hd
  have eX : X = 2 * (X / 2) + X % 2 := by omega
  have u : ∀ {q r : Nat}, r < d → X = r + d * q → X / d = q ∧ X % d = r := by
    intro q r hr hx
    constructor
    · rw [hx, Nat.add_mul_div_left _ _ hd, Nat.div_eq_of_lt hr, Nat.zero_add]
    · rw [hx, Nat.add_mul_mod_self_left, Nat.mod_eq_of_lt hr]
  have m1 : d * (2 * (X / 2 / d) + 1) = 2 * (d * (X / 2 / d)) + d := by rw [Nat.mul_add, Nat.mul_one, Nat.mul_left_comm]
  have m2 : d * (2 * (X / 2 / d)) = 2 * (d * (X / 2 / d)) := Nat.mul_left_comm _ _ _
  constructor
  · intro c
    have := u (q := 2 * (X / 2 / d) + 1) (r := 2 * (X / 2 % d) + X % 2 - d) (by omega) (by rw [m1]; omega)
    exact ⟨this.1, by omega⟩
  · intro c
    exact u (q := 2 * (X / 2 / d)) (r := 2 * (X / 2 % d) + X % 2) (by omega) (by rw [m2]; omega)
theorem uN_aRb (f : Int64) {k : Nat} (hk : k < 64) : uN ((aR f (nI k)) &&& 1) = if (uN f).testBit k = true then 1 else 0 := by
  have b := aR_o f hk
  by_cases q : (uN f).testBit k = true
  · rw [if_pos q, b.mpr q]; rfl
  · rw [if_neg q]
    have : ¬ uN (aR f (nI k)) % 2 = 1 := fun w => q (b.mp ((and1_o _).mpr w))
    rw [uN_and1]
    omega
noncomputable def fQ (pt : Nat → Int64) (j : Nat) (r : Int64 × (Nat → Bool)) : Int64 × (Nat → Bool) :=
  let t : Int64 := (2 * r.1) + (if nI j < 136 then 0 else ((aR (pt 0) (nI j - 136)) &&& 1))
  let c : Bool := if (if 0 ≤ r.1 then false else true) = true then true else if (g_M_below t (pt 1)) = true then false else true
  ((if c = true then t - (pt 1) else t), updB r.2 j c)
def iQ (G d : Nat) (j : Nat) (r : Int64 × (Nat → Bool)) : Prop :=
  (∀ k, k < j → r.2 k = false) ∧ bN r.2 200 = (G / 2 ^ j / d) * 2 ^ j ∧ uN r.1 = G / 2 ^ j % d
theorem quo_step {pt : Nat → Int64} (hd : 0 < uN (pt 1)) {j : Nat} (hj : j < 200) {r : Int64 × (Nat → Bool)} (h : iQ (uN (pt 0) * 2 ^ 136) (uN (pt 1)) (j + 1) r) : iQ (uN (pt 0) * 2 ^ 136) (uN (pt 1)) j (fQ pt j r) := by
  obtain ⟨rest, row⟩ := r
  obtain ⟨h1, h2, h3⟩ := h
  dsimp only at h1 h2 h3
  have ld := uN_lt (pt 1)
  have lr := uN_lt rest
  have e1 : uN (pt 0) * 2 ^ 136 / 2 ^ (j + 1) = uN (pt 0) * 2 ^ 136 / 2 ^ j / 2 := by rw [Nat.div_div_eq_div_mul, ← Nat.pow_succ]
  rw [e1] at h2 h3
  have bit : uN (if nI j < 136 then 0 else ((aR (pt 0) (nI j - 136)) &&& 1)) = uN (pt 0) * 2 ^ 136 / 2 ^ j % 2 := by
    have t := tb_is (uN (pt 0) * 2 ^ 136) j
    rw [tb_shift] at t
    by_cases c : j < 136
    · have c' : nI j < (136 : Int32) := (nI_ltI (a := j) (b := 136) (by omega) (by decide)).mpr c
      rw [if_pos c']
      rw [decide_eq_false (show ¬ 136 ≤ j by omega), Bool.false_and] at t
      have : ¬ uN (pt 0) * 2 ^ 136 / 2 ^ j % 2 = 1 := fun w => absurd (t.mpr w) nff
      show 0 = _
      omega
    · have c' : ¬ nI j < (136 : Int32) := fun w => c ((nI_ltI (a := j) (b := 136) (by omega) (by decide)).mp w)
      have e : nI j - 136 = nI (j - 136) := nI_sub (a := j) (b := 136) (by omega) (by omega)
      rw [if_neg c', e, uN_aRb _ (by omega)]
      rw [decide_eq_true (show 136 ≤ j by omega), Bool.true_and] at t
      by_cases q : (uN (pt 0)).testBit (j - 136) = true
      · rw [if_pos q, t.mp q]
      · rw [if_neg q]
        have := mt t.mpr q
        omega
  have ds := dig_step (X := uN (pt 0) * 2 ^ 136 / 2 ^ j) hd
  rw [← h3] at ds
  have pj : 2 ^ (j + 1) = 2 ^ j * 2 := Nat.pow_succ _ _
  have lx : uN rest < uN (pt 1) := by rw [h3]; exact Nat.mod_lt _ hd
  unfold fQ iQ
  dsimp only
  generalize uN (pt 0) * 2 ^ 136 / 2 ^ j = X at h2 ds bit h3 ⊢
  have tw : ∀ y : Int64, uN y = X % 2 → uN (2 * rest + y) = (2 * uN rest + X % 2) % 2 ^ 64 := by
    intro y hy
    have u2 : uN 2 = 2 := rfl
    rw [uN_add, uN_mul, u2, hy, p64]
    omega
  generalize (if nI j < 136 then 0 else ((aR (pt 0) (nI j - 136)) &&& 1)) = y at bit
  have ty := tw y bit
  have cz : (0 ≤ rest) ↔ uN rest < 9223372036854775808 := by
    have a := i64_lt0 rest
    rw [p63, Int64.lt_iff_toInt_lt] at a
    rw [Int64.le_iff_toInt_le]
    omega
  have hc : (if (if 0 ≤ rest then false else true) = true then true else if (g_M_below (2 * rest + y) (pt 1)) = true then false else true) = decide (uN (pt 1) ≤ 2 * uN rest + X % 2) := by
    rw [M_below_is, ty, p64]
    by_cases c : 0 ≤ rest
    · have c' := cz.mp c
      rw [if_pos c, if_neg nff, Nat.mod_eq_of_lt (by omega)]
      by_cases q : 2 * uN rest + X % 2 < uN (pt 1)
      · rw [decide_eq_true q, if_pos ytt, decide_eq_false (by omega)]
      · rw [decide_eq_false q, if_neg nff, decide_eq_true (by omega)]
    · have c' := mt cz.mpr c
      rw [if_neg c, if_pos ytt, decide_eq_true (by omega)]
  rw [hc]
  refine ⟨?_, ?_, ?_⟩
  · intro k hk
    unfold updB
    rw [if_neg (by omega)]
    exact h1 k (by omega)
  · rw [bN_upd hj (h1 j (by omega)), h2, pj]
    by_cases q : uN (pt 1) ≤ 2 * uN rest + X % 2
    · rw [decide_eq_true q, if_pos ytt, (ds.1 q).1, Nat.add_mul, Nat.one_mul, Nat.mul_comm 2, Nat.mul_assoc, Nat.mul_comm 2]
    · rw [decide_eq_false q, if_neg nff, (ds.2 q).1, Nat.add_zero, Nat.mul_comm 2, Nat.mul_assoc, Nat.mul_comm 2]
  · by_cases q : uN (pt 1) ≤ 2 * uN rest + X % 2
    · have d1 := (ds.1 q).2
      rw [decide_eq_true q, if_pos ytt, uN_sub, ty, p64]
      omega
    · have d2 := (ds.2 q).2
      rw [decide_eq_false q, if_neg nff, ty, d2, p64]
      omega
theorem M_quo_row (pt : Nat → Int64) (rb : Nat → Bool) (hd : 0 < uN (pt 1)) : ∃ w : Int64 × Int32 × (Nat → Bool), lrun (nx_M_quotient_45 pt) 200 (0, 199, g_M_empty rb 200) = w ∧ bN w.2.2 200 = uN (pt 0) * 2 ^ 136 / uN (pt 1) ∧ uN w.1 = uN (pt 0) * 2 ^ 136 % uN (pt 1) := by
  have hr : lrun (nx_M_quotient_45 pt) 200 (0, 199, g_M_empty rb 200) = (fun r : Int64 × (Nat → Bool) => (r.1, nI 0 + (-1), r.2)) (iterDn (fQ pt) 200 (0, g_M_empty rb 200)) := by
    refine lrun_dn (nx_M_quotient_45 pt) (fun j (r : Int64 × (Nat → Bool)) => (r.1, nI j + (-1), r.2)) (fQ pt) 200 ?_ ?_ 200 (0, g_M_empty rb 200) (Nat.le_refl _) 200 (Nat.le_refl _)
    · intro j r hj
      unfold nx_M_quotient_45 fQ
      dsimp only
      rw [pk_m1, if_neg (nI_pos (by omega)), nI_clamp (by omega), c_0, c_1]
    · intro r
      unfold nx_M_quotient_45
      dsimp only
      rw [if_pos (by decide)]
  have e0 := empty_nI rb (n := 200) (by decide)
  have inv := iterDn_inv (fQ pt) (iQ (uN (pt 0) * 2 ^ 136) (uN (pt 1))) 200 (fun j r hj h => quo_step hd hj h) 200 (0, g_M_empty rb 200) (Nat.le_refl _) (by
    have l := uN_lt' (pt 0)
    have z : uN (pt 0) * 2 ^ 136 / 2 ^ 200 = 0 := by
      apply Nat.div_eq_of_lt
      have : uN (pt 0) * 2 ^ 136 < 2 ^ 64 * 2 ^ 136 := Nat.mul_lt_mul_of_pos_right l (Nat.two_pow_pos _)
      rw [← Nat.pow_add] at this
      exact this
    refine ⟨bN0_bits e0, ?_, ?_⟩
    · rw [z, Nat.zero_div, Nat.zero_mul]; exact e0
    · rw [z, Nat.zero_mod]; rfl)
  refine ⟨_, hr, ?_⟩
  generalize iterDn (fQ pt) 200 (0, g_M_empty rb 200) = w at inv
  obtain ⟨_, i2, i3⟩ := inv
  rw [Nat.pow_zero, Nat.div_one] at i2 i3
  rw [Nat.mul_one] at i2
  exact ⟨i2, i3⟩
