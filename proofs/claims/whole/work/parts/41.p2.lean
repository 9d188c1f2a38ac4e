/-! Pure rows, 2: whole part, half and rest of an exact ratio; what a cut number with 'more' says of them. -/
def tr (a b : Nat) : Nat × Bool × Bool := (a / b, decide ((2 * a) / b % 2 = 1), decide ((2 * a) % b ≠ 0))
def td (N k : Nat) (m : Bool) : Nat × Bool × Bool := (N / 2 ^ (k + 1), decide (N / 2 ^ k % 2 = 1), m || decide (N % 2 ^ k ≠ 0))
theorem tr_mul (a b : Nat) {k : Nat} (hk : 0 < k) : tr (a * k) (b * k) = tr a b := by
  have e : ((2 * a) % b * k ≠ 0) ↔ ((2 * a) % b ≠ 0) := by
    constructor
    · intro h q; exact h (by rw [q, Nat.zero_mul])
    · intro h q; exact h ((Nat.mul_eq_zero.mp q).resolve_right (by omega))
  unfold tr
  rw [← Nat.mul_assoc 2 a k, Nat.mul_div_mul_right _ _ hk, Nat.mul_div_mul_right _ _ hk, Nat.mul_mod_mul_right, decide_eq_decide.mpr e]
theorem tr_cross {a b a' b' : Nat} (hb : 0 < b) (hb' : 0 < b') (h : a * b' = a' * b) : tr a b = tr a' b' := by
  rw [← tr_mul a b hb', ← tr_mul a' b' hb, h, Nat.mul_comm b b']
theorem td_exact (N k : Nat) : td N k false = tr N (2 ^ (k + 1)) := by
  have e : 2 ^ (k + 1) = 2 * 2 ^ k := by rw [Nat.pow_succ, Nat.mul_comm]
  have e1 : (2 * N) / 2 ^ (k + 1) = N / 2 ^ k := by rw [e, Nat.mul_div_mul_left _ _ (by decide)]
  have e2 : (2 * N) % 2 ^ (k + 1) = 2 * (N % 2 ^ k) := by rw [e, Nat.mul_mod_mul_left]
  have e3 : ((2 * N) % 2 ^ (k + 1) ≠ 0) ↔ (N % 2 ^ k ≠ 0) := by rw [e2]; omega
  unfold td tr
  rw [e1, decide_eq_decide.mpr e3, Bool.false_or]
theorem td_floor (a : Nat) {b : Nat} (hb : 0 < b) (k : Nat) : td (a * 2 ^ (k + 1) / b) k (decide (a * 2 ^ (k + 1) % b ≠ 0)) = tr a b := by
  have hp : 0 < 2 ^ k := Nat.two_pow_pos k
  have e : a * 2 ^ (k + 1) = (2 * a) * 2 ^ k := by rw [Nat.pow_succ, Nat.mul_comm (2 ^ k) 2, ← Nat.mul_assoc, Nat.mul_comm a 2]
  have e0 : a * 2 ^ (k + 1) / b / 2 ^ (k + 1) = a / b := by
    rw [Nat.div_div_eq_div_mul, Nat.mul_div_mul_right _ _ (Nat.two_pow_pos (k + 1))]
  have e1 : a * 2 ^ (k + 1) / b / 2 ^ k = (2 * a) / b := by
    rw [e, Nat.div_div_eq_div_mul, Nat.mul_div_mul_right _ _ hp]
  have e2 : (decide (a * 2 ^ (k + 1) % b ≠ 0) || decide (a * 2 ^ (k + 1) / b % 2 ^ k ≠ 0)) = decide ((2 * a) % b ≠ 0) := by
    rw [e]
    generalize 2 * a = A
    generalize 2 ^ k = P at hp
    by_cases h : A % b = 0
    · obtain ⟨q, rfl⟩ := Nat.dvd_of_mod_eq_zero h
      have a1 : b * q * P % b = 0 := by rw [Nat.mul_assoc]; exact Nat.mul_mod_right b (q * P)
      have a2 : b * q * P / b = q * P := by rw [Nat.mul_assoc]; exact Nat.mul_div_cancel_left _ hb
      rw [a1, a2, Nat.mul_mod_left, Nat.mul_mod_right]; rfl
    · have a3 : ¬ (A * P % b = 0 ∧ A * P / b % P = 0) := by
        rintro ⟨x, y⟩
        obtain ⟨u, hu⟩ := Nat.dvd_of_mod_eq_zero x
        rw [hu, Nat.mul_div_cancel_left _ hb] at y
        obtain ⟨v, hv⟩ := Nat.dvd_of_mod_eq_zero y
        rw [hv] at hu
        have e9 : A = b * v := Nat.eq_of_mul_eq_mul_right hp (by rw [hu, Nat.mul_comm P v, Nat.mul_assoc])
        exact h (by rw [e9]; exact Nat.mul_mod_right b v)
      by_cases x : A * P % b = 0
      · have y : A * P / b % P ≠ 0 := fun y => a3 ⟨x, y⟩
        simp [h, y]
      · simp [h, x]
  unfold td tr
  rw [e0, e1, e2]
/-- the last digit is 1 where something more lies below -/
def jam (N : Nat) (m : Bool) : Nat := if m = true ∧ N % 2 = 0 then N + 1 else N
theorem jam_false (N : Nat) : jam N false = N := by
  unfold jam
  rw [if_neg (fun h => absurd h.1 (by decide))]
theorem jam_true (N : Nat) : jam N true = if N % 2 = 0 then N + 1 else N := by
  unfold jam
  by_cases h : N % 2 = 0
  · rw [if_pos ⟨rfl, h⟩, if_pos h]
  · rw [if_neg (fun q => h q.2), if_neg h]
theorem jam_div2 (N : Nat) (m : Bool) : jam N m / 2 = N / 2 := by
  cases m
  · rw [jam_false]
  · rw [jam_true]; split <;> omega
theorem jam_odd (N : Nat) : jam N true % 2 = 1 := by
  rw [jam_true]; split <;> omega
theorem div_p1 (x j : Nat) : x / 2 ^ (j + 1) = x / 2 / 2 ^ j := by rw [Nat.div_div_eq_div_mul, Nat.pow_succ, Nat.mul_comm]
theorem jam_td (N k : Nat) (m : Bool) : td (jam N m) (k + 1) false = td N (k + 1) m := by
  unfold td
  rw [div_p1, div_p1 (jam N m) k, jam_div2, ← div_p1, ← div_p1 N k]
  cases m
  · rw [jam_false]
  · have h : jam N true % 2 ^ (k + 1) ≠ 0 := by
      intro q
      have e : jam N true % 2 ^ (k + 1) % 2 = jam N true % 2 := Nat.mod_mod_of_dvd _ ⟨2 ^ k, by rw [Nat.pow_succ, Nat.mul_comm]⟩
      rw [q, jam_odd] at e
      exact absurd e (by decide)
    simp [h]
/-- the same, d digits further up -/
def tq (h : Nat) (hb rb : Bool) : Nat → Nat × Bool × Bool
  | 0 => (h, hb, rb)
  | d + 1 => (h / 2 ^ (d + 1), decide (h / 2 ^ d % 2 = 1), rb || (hb || decide (h % 2 ^ d ≠ 0)))
theorem td_up (G k : Nat) (m : Bool) (d : Nat) : td G (k + d) m = tq (td G k m).1 (td G k m).2.1 (td G k m).2.2 d := by
  cases d with
  | zero => rfl
  | succ d =>
    have e0 : G / 2 ^ (k + (d + 1) + 1) = G / 2 ^ (k + 1) / 2 ^ (d + 1) := by
      rw [Nat.div_div_eq_div_mul, ← Nat.pow_add]; congr 2; omega
    have e1 : G / 2 ^ (k + (d + 1)) = G / 2 ^ (k + 1) / 2 ^ d := by
      rw [Nat.div_div_eq_div_mul, ← Nat.pow_add]; congr 2; omega
    have e2 : G % 2 ^ (k + (d + 1)) = G % 2 ^ k + 2 ^ k * (G / 2 ^ k % 2) + 2 ^ (k + 1) * (G / 2 ^ (k + 1) % 2 ^ d) := by
      have a : 2 ^ (k + (d + 1)) = 2 ^ (k + 1) * 2 ^ d := by rw [← Nat.pow_add]; congr 1; omega
      have b : 2 ^ (k + 1) = 2 ^ k * 2 := Nat.pow_succ 2 k
      rw [a, Nat.mod_mul]
      congr 1
      rw [b, Nat.mod_mul]
    have hp : 0 < 2 ^ k := Nat.two_pow_pos k
    have hp1 : 0 < 2 ^ (k + 1) := Nat.two_pow_pos (k + 1)
    have e3 : (m || decide (G % 2 ^ (k + (d + 1)) ≠ 0)) = ((m || decide (G % 2 ^ k ≠ 0)) || (decide (G / 2 ^ k % 2 = 1) || decide (G / 2 ^ (k + 1) % 2 ^ d ≠ 0))) := by
      rw [e2]
      have c1 : G / 2 ^ k % 2 = 0 ∨ G / 2 ^ k % 2 = 1 := by omega
      generalize G / 2 ^ (k + 1) % 2 ^ d = Z
      generalize G % 2 ^ k = Y
      generalize 2 ^ (k + 1) = P1 at hp1
      generalize 2 ^ k = P at hp c1
      rcases c1 with c1 | c1
      · rw [c1, Nat.mul_zero, Nat.add_zero]
        by_cases z : Z = 0
        · rw [z, Nat.mul_zero, Nat.add_zero]; simp
        · have z' : Y + P1 * Z ≠ 0 := by
            have : 0 < P1 * Z := Nat.mul_pos hp1 (by omega)
            omega
          rw [decide_eq_true z', decide_eq_true z]; simp
      · rw [c1, Nat.mul_one]
        have z' : Y + P + P1 * Z ≠ 0 := by omega
        rw [decide_eq_true z']; simp
    show (G / 2 ^ (k + (d + 1) + 1), decide (G / 2 ^ (k + (d + 1)) % 2 = 1), m || decide (G % 2 ^ (k + (d + 1)) ≠ 0)) = (G / 2 ^ (k + 1) / 2 ^ (d + 1), decide (G / 2 ^ (k + 1) / 2 ^ d % 2 = 1), (m || decide (G % 2 ^ k ≠ 0)) || (decide (G / 2 ^ k % 2 = 1) || decide (G / 2 ^ (k + 1) % 2 ^ d ≠ 0)))
    rw [e0, e1, e3]
/-- two words of 64 bits as one number -/
theorem two_words (a b : Nat) (hb : b < 2 ^ 64) : td (a * 2 ^ 64 + b) 63 false = (a, decide (2 ^ 63 ≤ b), decide (b % 2 ^ 63 ≠ 0)) := by
  have e0 : (a * 2 ^ 64 + b) / 2 ^ (63 + 1) = a := by omega
  have e1 : ((a * 2 ^ 64 + b) / 2 ^ 63 % 2 = 1) ↔ (2 ^ 63 ≤ b) := by omega
  have e2 : (a * 2 ^ 64 + b) % 2 ^ 63 = b % 2 ^ 63 := by omega
  unfold td
  rw [e0, e2, decide_eq_decide.mpr e1, Bool.false_or]
