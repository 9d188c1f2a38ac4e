/-! Pure rows, 1: loops with a counter; a row of bits as a number; the reference's small readers. -/
def iterUp {R : Type} (F : Nat → R → R) : Nat → Nat → R → R
  | _, 0, r => r
  | j, m + 1, r => iterUp F (j + 1) m (F j r)
def iterDn {R : Type} (F : Nat → R → R) : Nat → R → R
  | 0, r => r
  | j + 1, r => iterDn F j (F j r)
theorem lrun_up {S R : Type} (nx : S → Option S) (st : Nat → R → S) (F : Nat → R → R) (n : Nat) (hs : ∀ j r, j < n → nx (st j r) = some (st (j + 1) (F j r))) (he : ∀ r, nx (st n r) = none) :
    ∀ (m j : Nat) (r : R), j + m = n → ∀ fuel, m ≤ fuel → lrun nx fuel (st j r) = st n (iterUp F j m r) := by
  intro m
  induction m with
  | zero =>
    intro j r hj fuel _
    have e : j = n := by omega
    subst e
    exact lrun_none (he r) fuel
  | succ m ih =>
    intro j r hj fuel hf
    obtain ⟨f, rfl⟩ : ∃ f, fuel = f + 1 := ⟨fuel - 1, by omega⟩
    rw [lrun_some (hs j r (by omega))]
    exact ih (j + 1) (F j r) (by omega) f (by omega)
theorem lrun_dn {S R : Type} (nx : S → Option S) (st : Nat → R → S) (F : Nat → R → R) (n : Nat) (hs : ∀ j r, j < n → nx (st (j + 1) r) = some (st j (F j r))) (he : ∀ r, nx (st 0 r) = none) :
    ∀ (j : Nat) (r : R), j ≤ n → ∀ fuel, j ≤ fuel → lrun nx fuel (st j r) = st 0 (iterDn F j r) := by
  intro j
  induction j with
  | zero => intro r _ fuel _; exact lrun_none (he r) fuel
  | succ j ih =>
    intro r hj fuel hf
    obtain ⟨f, rfl⟩ : ∃ f, fuel = f + 1 := ⟨fuel - 1, by omega⟩
    rw [lrun_some (hs j r (by omega))]
    exact ih (F j r) (by omega) f (by omega)
theorem iterUp_inv {R : Type} (F : Nat → R → R) (P : Nat → R → Prop) (n : Nat) (hs : ∀ j r, j < n → P j r → P (j + 1) (F j r)) : ∀ (m j : Nat) (r : R), j + m = n → P j r → P n (iterUp F j m r) := by
  intro m
  induction m with
  | zero => intro j r hj h; have e : j = n := by omega
            subst e; exact h
  | succ m ih => intro j r hj h; exact ih (j + 1) (F j r) (by omega) (hs j r (by omega) h)
theorem iterDn_inv {R : Type} (F : Nat → R → R) (P : Nat → R → Prop) (n : Nat) (hs : ∀ j r, j < n → P (j + 1) r → P j (F j r)) : ∀ (j : Nat) (r : R), j ≤ n → P j r → P 0 (iterDn F j r) := by
  intro j
  induction j with
  | zero => intro r _ h; exact h
  | succ j ih => intro r hj h; exact ih (F j r) (by omega) (hs j r (by omega) h)
/-- the number whose bits the row's first n are -/
def bN (f : Nat → Bool) : Nat → Nat
  | 0 => 0
  | n + 1 => bN f n + (if f n = true then 2 ^ n else 0)
theorem bN_lt (f : Nat → Bool) (n : Nat) : bN f n < 2 ^ n := by
  induction n with
  | zero => simp [bN]
  | succ n ih =>
    have e : 2 ^ (n + 1) = 2 ^ n + 2 ^ n := by rw [Nat.pow_succ]; omega
    show bN f n + (if f n = true then 2 ^ n else 0) < 2 ^ (n + 1)
    by_cases h : f n = true
    · rw [if_pos h]; omega
    · rw [if_neg h]; omega
theorem bN_bit (f : Nat → Bool) (n k : Nat) : (bN f n).testBit k = (decide (k < n) && f k) := by
  induction n with
  | zero => simp [bN]
  | succ n ih =>
    have hl := bN_lt f n
    show (bN f n + (if f n = true then 2 ^ n else 0)).testBit k = _
    by_cases h : f n = true
    · rw [if_pos h, Nat.add_comm]
      rcases Nat.lt_trichotomy k n with q | q | q
      · rw [Nat.testBit_two_pow_add_gt q, ih]
        have a : k < n + 1 := by omega
        simp [q, a]
      · subst q
        rw [Nat.testBit_two_pow_add_eq, Nat.testBit_lt_two_pow hl]
        simp [h]
      · have e : 2 ^ (n + 1) = 2 ^ n + 2 ^ n := by rw [Nat.pow_succ]; omega
        have a : 2 ^ n + bN f n < 2 ^ k := Nat.lt_of_lt_of_le (by omega) (Nat.pow_le_pow_right (by omega) (show n + 1 ≤ k by omega))
        rw [Nat.testBit_lt_two_pow a]
        have b : ¬ k < n + 1 := by omega
        simp [b]
    · rw [if_neg h, Nat.add_zero, ih]
      rcases Nat.lt_trichotomy k n with q | q | q
      · have a : k < n + 1 := by omega
        simp [q, a]
      · subst q
        have h' : f k = false := by cases g : f k
                                    · rfl
                                    · exact absurd g h
        simp [h']
      · have a : ¬ k < n := by omega
        have b : ¬ k < n + 1 := by omega
        simp [a, b]
theorem bN_congr {f g : Nat → Bool} {n : Nat} (h : ∀ k, k < n → f k = g k) : bN f n = bN g n := by
  apply Nat.eq_of_testBit_eq
  intro k
  rw [bN_bit, bN_bit]
  by_cases q : k < n
  · simp [q, h k q]
  · simp [q]
theorem bN_mod (f : Nat → Bool) {n k : Nat} (h : k ≤ n) : bN f n % 2 ^ k = bN f k := by
  apply Nat.eq_of_testBit_eq
  intro i
  rw [Nat.testBit_mod_two_pow, bN_bit, bN_bit]
  by_cases q : i < k
  · have a : i < n := by omega
    simp [q, a]
  · simp [q]
theorem bN_zero {f : Nat → Bool} {n : Nat} (h : ∀ k, k < n → f k = false) : bN f n = 0 := by
  have e : bN f n = bN (fun _ => false) n := bN_congr h
  rw [e]
  induction n with
  | zero => rfl
  | succ n ih => show bN (fun _ => false) n + 0 = 0; rw [ih (fun k hk => h k (by omega)) (bN_congr fun k hk => h k (by omega))]
theorem bN_set (f : Nat → Bool) (n k : Nat) (b : Bool) (hk : n ≤ k) : bN (updB f k b) n = bN f n := bN_congr (fun j hj => by unfold updB; rw [if_neg (by omega)])
theorem bN_up (f : Nat → Bool) (k : Nat) (b : Bool) : bN (updB f k b) (k + 1) = bN f k + (if b = true then 2 ^ k else 0) := by
  show bN (updB f k b) k + (if updB f k b k = true then 2 ^ k else 0) = _
  rw [bN_set f k k b (Nat.le_refl k)]
  unfold updB
  rw [if_pos rfl]
theorem okz_nI {z : Int32} (h : okz z) : ∃ n, n ≤ 33000 ∧ z = nI n ∧ z.toInt.toNat = n := by
  obtain ⟨a, b⟩ := h
  obtain ⟨n, hn, e⟩ := nI_of (x := z) (by rw [Int32.lt_iff_toInt_lt]; have : (0 : Int32).toInt = 0 := rfl; omega)
  have t := nI_toInt hn
  rw [← e] at t
  exact ⟨n, by omega, e, by omega⟩
theorem clamp_is (i : Int32) : i.toNatClampNeg = i.toInt.toNat := rfl
/-- bit -/
theorem M_bit_is {z : Int32} (hz : okz z) (rb : Nat → Bool) (i : Int32) : g_M_bit z rb i = (decide (0 ≤ i.toInt) && (bN rb z.toInt.toNat).testBit i.toInt.toNat) := by
  obtain ⟨a, b⟩ := hz
  have e0 : (0 : Int32).toInt = 0 := rfl
  unfold g_M_bit
  rw [bN_bit]
  by_cases c1 : i < 0
  · rw [if_pos c1]
    rw [Int32.lt_iff_toInt_lt] at c1
    have q : ¬ 0 ≤ i.toInt := by omega
    simp [q]
  · rw [if_neg c1]
    rw [Int32.lt_iff_toInt_lt] at c1
    by_cases c2 : z ≤ i
    · rw [if_pos c2]
      rw [Int32.le_iff_toInt_le] at c2
      have q : ¬ i.toInt.toNat < z.toInt.toNat := by omega
      rw [decide_eq_false q, Bool.false_and, Bool.and_false]
    · rw [if_neg c2]
      rw [Int32.le_iff_toInt_le] at c2
      have q0 : 0 ≤ i.toInt := by omega
      have q : i.toInt.toNat < z.toInt.toNat := by omega
      rw [clamp_is, decide_eq_true q0, decide_eq_true q, Bool.true_and, Bool.true_and]
      cases g : rb i.toInt.toNat
      · exact if_neg (by decide)
      · exact if_pos rfl
/-- empty -/
theorem M_empty_is {z : Int32} (hz : okz z) (rb : Nat → Bool) : bN (g_M_empty rb z) z.toInt.toNat = 0 := by
  obtain ⟨n, hn, rfl, en⟩ := okz_nI hz
  rw [en]
  have hr : lrun (nx_M_empty_17 (nI n)) 33000 (0, rb) = (nI n, iterUp (fun j r => updB r j false) 0 n rb) := by
    refine lrun_up (nx_M_empty_17 (nI n)) (fun j r => (nI j, r)) (fun j r => updB r j false) n ?_ ?_ n 0 rb (by omega) 33000 hn
    · intro j r hj
      unfold nx_M_empty_17
      dsimp only
      rw [if_neg (nI_ge hj (by omega)), nI_clamp (by omega), nI_1]
    · intro r
      unfold nx_M_empty_17
      dsimp only
      rw [if_pos (nI_le (Nat.le_refl n) (by omega))]
  have hg : g_M_empty rb (nI n) = iterUp (fun j r => updB r j false) 0 n rb := by
    unfold g_M_empty
    dsimp only
    rw [hr]
  rw [hg]
  apply bN_zero
  refine iterUp_inv (fun j r => updB r j false) (fun j (r : Nat → Bool) => ∀ k, k < j → r k = false) n ?_ n 0 rb (by omega) (fun k hk => absurd hk (by omega))
  intro j r _ h k hk
  show updB r j false k = false
  unfold updB
  by_cases q : k = j
  · rw [if_pos q]
  · rw [if_neg q]; exact h k (by omega)
/-- the place of the highest bit below n, -1 if there is none -/
def hiB (f : Nat → Bool) : Nat → Int
  | 0 => -1
  | n + 1 => if f n = true then (n : Int) else hiB f n
theorem hiB_rng (f : Nat → Bool) (n : Nat) : -1 ≤ hiB f n ∧ hiB f n < n := by
  induction n with
  | zero => exact ⟨Int.le_refl _, by show (-1 : Int) < 0; decide⟩
  | succ n ih =>
    show -1 ≤ (if f n = true then (n : Int) else hiB f n) ∧ (if f n = true then (n : Int) else hiB f n) < ((n + 1 : Nat) : Int)
    by_cases h : f n = true
    · rw [if_pos h]; omega
    · rw [if_neg h]; omega
theorem hiB_none {f : Nat → Bool} {n : Nat} : hiB f n = -1 ↔ bN f n = 0 := by
  induction n with
  | zero => exact ⟨fun _ => rfl, fun _ => rfl⟩
  | succ n ih =>
    show (if f n = true then (n : Int) else hiB f n) = -1 ↔ bN f n + (if f n = true then 2 ^ n else 0) = 0
    have hp : 0 < 2 ^ n := Nat.two_pow_pos n
    by_cases h : f n = true
    · rw [if_pos h, if_pos h]; exact ⟨fun q => by omega, fun q => by omega⟩
    · rw [if_neg h, if_neg h, ih]; omega
theorem hiB_some {f : Nat → Bool} {n t : Nat} (h : hiB f n = (t : Int)) : 2 ^ t ≤ bN f n ∧ bN f n < 2 ^ (t + 1) := by
  induction n with
  | zero => exact absurd h (by show ¬ (-1 : Int) = t; omega)
  | succ n ih =>
    have h1 : (if f n = true then (n : Int) else hiB f n) = (t : Int) := h
    show 2 ^ t ≤ bN f n + (if f n = true then 2 ^ n else 0) ∧ bN f n + (if f n = true then 2 ^ n else 0) < 2 ^ (t + 1)
    have hl := bN_lt f n
    by_cases q : f n = true
    · rw [if_pos q] at h1 ⊢
      have e : n = t := by omega
      subst e
      have e2 : 2 ^ (n + 1) = 2 ^ n + 2 ^ n := by rw [Nat.pow_succ]; omega
      omega
    · rw [if_neg q] at h1 ⊢
      have := ih h1
      omega
theorem M_highest_is {z : Int32} (hz : okz z) (rb : Nat → Bool) : (g_M_highest z rb).toInt = hiB rb z.toInt.toNat := by
  obtain ⟨n, hn, rfl, en⟩ := okz_nI hz
  rw [en]
  have key : ∀ j, j ≤ 33000 → ∀ fuel, j ≤ fuel → (lrun (nx_M_highest_7 rb) fuel (nI j + (-1))).toInt = hiB rb j := by
    intro j
    induction j with
    | zero =>
      intro _ fuel _
      have e : nx_M_highest_7 rb (nI 0 + (-1)) = none := by
        unfold nx_M_highest_7
        rw [if_pos (by decide)]
      rw [lrun_none e]
      rfl
    | succ j ih =>
      intro hj fuel hf
      obtain ⟨f, rfl⟩ : ∃ f, fuel = f + 1 := ⟨fuel - 1, by omega⟩
      rw [pk_m1]
      show _ = (if rb j = true then (j : Int) else hiB rb j)
      by_cases q : rb j = true
      · have e : nx_M_highest_7 rb (nI j) = none := by
          unfold nx_M_highest_7
          rw [if_neg (nI_pos (by omega)), nI_clamp (by omega), if_pos q]
        rw [lrun_none e, if_pos q]
        exact nI_toInt (by omega)
      · have e : nx_M_highest_7 rb (nI j) = some (nI j + (-1)) := by
          unfold nx_M_highest_7
          rw [if_neg (nI_pos (by omega)), nI_clamp (by omega), if_neg q]
        rw [lrun_some e, if_neg q]
        exact ih (by omega) f (by omega)
  have e1 : nI n - 1 = nI n + (-1) := by
    apply Int32.toBitVec_inj.mp
    show (nI n).toBitVec - 1#32 = (nI n).toBitVec + (-1#32)
    rw [BitVec.sub_eq_add_neg]
  unfold g_M_highest
  dsimp only
  rw [e1]
  exact key n hn 33000 hn
/-- rest -/
theorem M_rest_is {z : Int32} (hz : okz z) (mo : Bool) (rb : Nat → Bool) (ii : Int32) : g_M_rest z mo rb ii = (mo || decide (bN rb z.toInt.toNat % 2 ^ ii.toInt.toNat ≠ 0)) := by
  obtain ⟨n, hn, rfl, en⟩ := okz_nI hz
  rw [en]
  have e0 : (0 : Int32).toInt = 0 := rfl
  -- the bound of the loop
  obtain ⟨b, hb⟩ : ∃ b, b = min ii.toInt.toNat n := ⟨_, rfl⟩
  have hbn : b ≤ n := by omega
  have hr : lrun (nx_M_rest_7 (nI n) rb ii) 33000 (mo, 0) = ((iterUp (fun j (r : Bool) => (r || rb j)) 0 b mo), nI b) := by
    refine lrun_up (nx_M_rest_7 (nI n) rb ii) (fun j r => (r, nI j)) (fun j r => (r || rb j)) b ?_ ?_ b 0 mo (by omega) 33000 (by omega)
    · intro j r hj
      have tj : (nI j).toInt = j := nI_toInt (by omega)
      have c1 : ¬ ii ≤ nI j := by rw [Int32.le_iff_toInt_le, tj]; omega
      have c2 : ¬ nI n ≤ nI j := nI_ge (by omega) (by omega)
      unfold nx_M_rest_7
      dsimp only
      rw [if_neg c1, if_neg c2, nI_clamp (by omega), nI_1]
      cases r <;> cases rb j <;> rfl
    · intro r
      have tj : (nI b).toInt = b := nI_toInt (by omega)
      unfold nx_M_rest_7
      dsimp only
      by_cases c1 : ii ≤ nI b
      · rw [if_pos c1]
      · rw [if_neg c1]
        rw [Int32.le_iff_toInt_le, tj] at c1
        have e : b = n := by omega
        rw [e, if_pos (nI_le (Nat.le_refl n) (by omega))]
  have hv : iterUp (fun j (r : Bool) => (r || rb j)) 0 b mo = (mo || decide (bN rb b ≠ 0)) := by
    refine iterUp_inv (fun j (r : Bool) => (r || rb j)) (fun j r => r = (mo || decide (bN rb j ≠ 0))) b ?_ b 0 mo (by omega) (by simp [bN])
    intro j r _ h
    show (r || rb j) = (mo || decide (bN rb j + (if rb j = true then 2 ^ j else 0) ≠ 0))
    have hp : 0 < 2 ^ j := Nat.two_pow_pos j
    rw [h]
    cases g : rb j
    · simp
    · have q : bN rb j + 2 ^ j ≠ 0 := by omega
      simp [q]
  have hm : bN rb n % 2 ^ ii.toInt.toNat = bN rb b := by
    by_cases q : ii.toInt.toNat ≤ n
    · rw [bN_mod rb q]
      have e : b = ii.toInt.toNat := by omega
      rw [e]
    · have e : b = n := by omega
      rw [e]
      exact Nat.mod_eq_of_lt (Nat.lt_of_lt_of_le (bN_lt rb n) (Nat.pow_le_pow_right (by omega) (by omega)))
  unfold g_M_rest
  dsimp only
  rw [hr, hm]
  exact hv
