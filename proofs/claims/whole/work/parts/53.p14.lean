/-! Pure rows, 14: the reference's join; its product's and its sum's row; isLess. -/
theorem mod_up (X j : Nat) : X % 2 ^ (j + 1) = X % 2 ^ j + (if X.testBit j = true then 2 ^ j else 0) := by
  have e : 2 ^ (j + 1) = 2 ^ j * 2 := Nat.pow_succ _ _
  rw [e, Nat.mod_mul]
  by_cases q : X.testBit j = true
  · rw [if_pos q, (tb_is X j).mp q, Nat.mul_one]
  · have z : X / 2 ^ j % 2 = 0 := by
      have := mt (tb_is X j).mpr q
      omega
    rw [if_neg q, z, Nat.mul_zero]
theorem tb_shift (f a j : Nat) : (f * 2 ^ a).testBit j = (decide (a ≤ j) && f.testBit (j - a)) := by
  rw [← Nat.shiftLeft_eq, Nat.testBit_shiftLeft]
theorem tb_high {f k : Nat} (hf : f < 2 ^ 64) (hk : 64 ≤ k) : f.testBit k = false :=
  Nat.testBit_lt_two_pow (Nat.lt_of_lt_of_le hf (Nat.pow_le_pow_right (by decide) hk))
/-- a bit of a fraction moved up -/
theorem shb (f : Int64) {a j : Nat} (ha : a ≤ j) (hj : j ≤ 100000) : (if (64 : Int32) ≤ (nI j - nI a) then false else if ((aR f (nI j - nI a)) &&& 1) = 1 then true else false) = (uN f * 2 ^ a).testBit j := by
  rw [nI_sub (by omega) ha, tb_shift, decide_eq_true ha, Bool.true_and]
  by_cases c : 64 ≤ j - a
  · have c' : (64 : Int32) ≤ nI (j - a) := show nI 64 ≤ nI (j - a) from nI_le c (by omega)
    rw [if_pos c', tb_high (uN_lt' f) c]
  · have c' : ¬ (64 : Int32) ≤ nI (j - a) := show ¬ nI 64 ≤ nI (j - a) from nI_ge (by omega) (by omega)
    rw [if_neg c']
    have b := aR_o f (d := j - a) (by omega)
    by_cases q : (uN f).testBit (j - a) = true
    · rw [if_pos (b.mpr q), q]
    · rw [if_neg (fun w => q (b.mp w))]
      cases g : (uN f).testBit (j - a)
      · rfl
      · exact absurd g q
theorem lrun_upF {S R : Type} (nx : S → Option S) (st : Nat → R → S) (F : Nat → R → R) (p n : Nat) (hs : ∀ j r, p ≤ j → j < n → nx (st j r) = some (st (j + 1) (F j r))) (he : ∀ r, nx (st n r) = none) :
    ∀ (m j : Nat) (r : R), p ≤ j → j + m = n → ∀ fuel, m ≤ fuel → lrun nx fuel (st j r) = st n (iterUp F j m r) := by
  intro m
  induction m with
  | zero =>
    intro j r _ hj fuel _
    have e : j = n := by omega
    subst e
    exact lrun_none (he r) fuel
  | succ m ih =>
    intro j r hp hj fuel hf
    obtain ⟨f, rfl⟩ : ∃ f, fuel = f + 1 := ⟨fuel - 1, by omega⟩
    rw [lrun_some (hs j r hp (by omega))]
    exact ih (j + 1) (F j r) (by omega) (by omega) f (by omega)
theorem iterUp_invF {R : Type} (F : Nat → R → R) (P : Nat → R → Prop) (p n : Nat) (hs : ∀ j r, p ≤ j → j < n → P j r → P (j + 1) (F j r)) : ∀ (m j : Nat) (r : R), p ≤ j → j + m = n → P j r → P n (iterUp F j m r) := by
  intro m
  induction m with
  | zero => intro j r _ hj h; have e : j = n := by omega
            subst e; exact h
  | succ m ih => intro j r hp hj h; exact ih (j + 1) (F j r) (by omega) (by omega) (hs j r hp (by omega) h)
def fJ (f pl : Nat) (ba : Bool) (j : Nat) (r : Bool × (Nat → Bool)) : Bool × (Nat → Bool) :=
  ((if ba = true then ((!(r.2 j) && ((f * 2 ^ pl).testBit j || r.1)) || ((f * 2 ^ pl).testBit j && r.1)) else ((r.2 j && (f * 2 ^ pl).testBit j) || (r.2 j && r.1) || ((f * 2 ^ pl).testBit j && r.1))), updB r.2 j (xor (xor (r.2 j) ((f * 2 ^ pl).testBit j)) r.1))
def iJ (f pl : Nat) (ba : Bool) (rb : Nat → Bool) (j : Nat) (r : Bool × (Nat → Bool)) : Prop :=
  (if ba = true then bN r.2 j + (f * 2 ^ pl) % 2 ^ j = bN rb j + (if r.1 = true then 2 ^ j else 0) else bN r.2 j + (if r.1 = true then 2 ^ j else 0) = bN rb j + (f * 2 ^ pl) % 2 ^ j) ∧ ∀ k, j ≤ k → r.2 k = rb k
theorem join_nat (ba a b c : Bool) (A B X P : Nat) (h : if ba = true then A + X = B + (if c = true then P else 0) else A + (if c = true then P else 0) = B + X) :
    if ba = true then (A + (if (xor (xor a b) c) = true then P else 0)) + (X + (if b = true then P else 0)) = (B + (if a = true then P else 0)) + (if ((!a && (b || c)) || (b && c)) = true then P + P else 0) else (A + (if (xor (xor a b) c) = true then P else 0)) + (if ((a && b) || (a && c) || (b && c)) = true then P + P else 0) = (B + (if a = true then P else 0)) + (X + (if b = true then P else 0)) := by
  cases ba <;> cases a <;> cases b <;> cases c <;> simp at h ⊢ <;> omega
theorem join_step {f pl : Nat} {ba : Bool} {rb : Nat → Bool} {j : Nat} (hp : pl ≤ j) {r : Bool × (Nat → Bool)} (h : iJ f pl ba rb j r) : iJ f pl ba rb (j + 1) (fJ f pl ba j r) := by
  obtain ⟨h1, h2⟩ := h
  obtain ⟨c, w⟩ := r
  have h1 : if ba = true then bN w j + (f * 2 ^ pl) % 2 ^ j = bN rb j + (if c = true then 2 ^ j else 0) else bN w j + (if c = true then 2 ^ j else 0) = bN rb j + (f * 2 ^ pl) % 2 ^ j := h1
  have h2 : ∀ k, j ≤ k → w k = rb k := h2
  have hj := h2 j (Nat.le_refl j)
  have e : 2 ^ (j + 1) = 2 ^ j + 2 ^ j := by rw [Nat.pow_succ (n := 2) (m := j)]; omega
  have er : bN rb (j + 1) = bN rb j + (if rb j = true then 2 ^ j else 0) := rfl
  have k := join_nat ba (rb j) ((f * 2 ^ pl).testBit j) c (bN w j) (bN rb j) ((f * 2 ^ pl) % 2 ^ j) (2 ^ j) h1
  rw [← e, ← er, ← mod_up, ← hj, ← bN_up w j] at k
  refine ⟨?_, ?_⟩
  · cases ba
    · exact k
    · exact k
  · intro k hk
    show updB w j _ k = rb k
    unfold updB
    rw [if_neg (by omega)]
    exact h2 k (by omega)
theorem M_join_is {n p : Nat} (hpn : p ≤ n) (hn : n ≤ 33000) (rb : Nat → Bool) (jf : Int64) (ba : Bool) : ∃ c : Bool, if ba = true then bN (g_M_join (nI n) rb jf (nI p) ba) n + (uN jf * 2 ^ p) % 2 ^ n = bN rb n + (if c = true then 2 ^ n else 0) else bN (g_M_join (nI n) rb jf (nI p) ba) n + (if c = true then 2 ^ n else 0) = bN rb n + (uN jf * 2 ^ p) % 2 ^ n := by
  have hr : lrun (nx_M_join_6 (nI n) jf (nI p) ba) 33000 (false, nI p, rb) = (fun r : Bool × (Nat → Bool) => (r.1, nI n, r.2)) (iterUp (fJ (uN jf) p ba) p (n - p) (false, rb)) := by
    refine lrun_upF (nx_M_join_6 (nI n) jf (nI p) ba) (fun j (r : Bool × (Nat → Bool)) => (r.1, nI j, r.2)) (fJ (uN jf) p ba) p n ?_ ?_ (n - p) p (false, rb) (Nat.le_refl p) (by omega) 33000 (by omega)
    · intro j r hp hj
      obtain ⟨c, w⟩ := r
      have hb := shb jf hp (show j ≤ 100000 by omega)
      unfold nx_M_join_6 fJ
      dsimp only
      rw [if_neg (nI_ge hj (by omega)), hb, nI_clamp (by omega), nI_1]
      generalize (uN jf * 2 ^ p).testBit j = b
      rcases Bool.eq_false_or_eq_true (w j) with ha | ha <;> simp only [ha] <;> cases ba <;> cases b <;> cases c <;> rfl
    · intro r
      unfold nx_M_join_6
      dsimp only
      rw [if_pos (nI_le (Nat.le_refl n) (by omega))]
  have inv := iterUp_invF (fJ (uN jf) p ba) (iJ (uN jf) p ba rb) p n (fun j r hp _ h => join_step hp h) (n - p) p (false, rb) (Nat.le_refl p) (by omega) (by
    refine ⟨?_, fun k _ => rfl⟩
    dsimp only
    rw [Nat.mul_mod_left, if_neg nff]
    cases ba
    · rw [if_neg nff]
    · rw [if_pos ytt])
  have hg : g_M_join (nI n) rb jf (nI p) ba = (iterUp (fJ (uN jf) p ba) p (n - p) (false, rb)).2 := by
    unfold g_M_join
    dsimp only
    rw [hr]
  rw [hg]
  exact ⟨_, inv.1⟩
theorem join_add {n p : Nat} (hpn : p ≤ n) (hn : n ≤ 33000) (rb : Nat → Bool) (jf : Int64) (h : bN rb n + uN jf * 2 ^ p < 2 ^ n) : bN (g_M_join (nI n) rb jf (nI p) false) n = bN rb n + uN jf * 2 ^ p := by
  obtain ⟨c, hc⟩ := M_join_is hpn hn rb jf false
  rw [if_neg nff, Nat.mod_eq_of_lt (by omega)] at hc
  cases c
  · rw [if_neg nff] at hc
    exact hc
  · rw [if_pos ytt] at hc
    omega
theorem join_sub {n p : Nat} (hpn : p ≤ n) (hn : n ≤ 33000) (rb : Nat → Bool) (jf : Int64) (h : uN jf * 2 ^ p ≤ bN rb n) : bN (g_M_join (nI n) rb jf (nI p) true) n = bN rb n - uN jf * 2 ^ p := by
  obtain ⟨c, hc⟩ := M_join_is hpn hn rb jf true
  have l := bN_lt rb n
  have l2 := bN_lt (g_M_join (nI n) rb jf (nI p) true) n
  rw [if_pos ytt, Nat.mod_eq_of_lt (by omega)] at hc
  cases c
  · rw [if_neg nff] at hc
    omega
  · rw [if_pos ytt] at hc
    omega
theorem c_0 : (0 : Int32).toNatClampNeg = 0 := rfl
theorem c_1 : (1 : Int32).toNatClampNeg = 1 := rfl
theorem empty_nI (rb : Nat → Bool) {n : Nat} (hn : n ≤ 33000) : bN (g_M_empty rb (nI n)) n = 0 := by
  have t : (nI n).toInt = n := nI_toInt (by omega)
  have := M_empty_is (z := nI n) ⟨by omega, by omega⟩ rb
  rw [t] at this
  exact this
theorem M_prod_row (pt : Nat → Int64) (rb : Nat → Bool) : bN (lrun (nx_M_product_20 pt) 64 (0, g_M_empty rb 130)).2 130 = uN (pt 0) * uN (pt 1) := by
  have hr : lrun (nx_M_product_20 pt) 64 (0, g_M_empty rb 130) = (nI 64, iterUp (fun j (r : Nat → Bool) => if ((aR (pt 1) (nI j)) &&& 1) = 1 then g_M_join 130 r (pt 0) (nI j) false else r) 0 64 (g_M_empty rb 130)) := by
    refine lrun_up (nx_M_product_20 pt) (fun j r => (nI j, r)) (fun j (r : Nat → Bool) => if ((aR (pt 1) (nI j)) &&& 1) = 1 then g_M_join 130 r (pt 0) (nI j) false else r) 64 ?_ ?_ 64 0 (g_M_empty rb 130) rfl 64 (Nat.le_refl _)
    · intro j r hj
      have cj : ¬ (64 : Int32) ≤ nI j := show ¬ nI 64 ≤ nI j from nI_ge (by omega) (by omega)
      unfold nx_M_product_20
      dsimp only
      rw [if_neg cj, nI_1, c_0, c_1]
    · intro r
      unfold nx_M_product_20
      dsimp only
      rw [if_pos (show (64 : Int32) ≤ nI 64 by decide)]
  rw [hr]
  have l0 := uN_lt' (pt 0)
  have l1 := uN_lt' (pt 1)
  have inv := iterUp_inv (fun j (r : Nat → Bool) => if ((aR (pt 1) (nI j)) &&& 1) = 1 then g_M_join 130 r (pt 0) (nI j) false else r) (fun j (r : Nat → Bool) => bN r 130 = uN (pt 0) * (uN (pt 1) % 2 ^ j)) 64 (by
    intro j r hj h
    have b := aR_o (pt 1) hj
    try dsimp only
    rw [mod_up]
    by_cases q : (uN (pt 1)).testBit j = true
    · rw [if_pos (b.mpr q), if_pos q, Nat.mul_add, ← h]
      refine join_add (n := 130) (p := j) (by omega) (by decide) r (pt 0) ?_
      rw [h]
      have m : uN (pt 1) % 2 ^ j < 2 ^ j := Nat.mod_lt _ (Nat.two_pow_pos j)
      have a1 : uN (pt 0) * (uN (pt 1) % 2 ^ j) + uN (pt 0) * 2 ^ j ≤ uN (pt 0) * (2 ^ j + 2 ^ j) := by
        rw [← Nat.mul_add]
        exact Nat.mul_le_mul_left _ (by omega)
      have p6 : 2 ^ j ≤ 2 ^ 63 := Nat.pow_le_pow_right (by decide) (by omega)
      have a2 : uN (pt 0) * (2 ^ j + 2 ^ j) ≤ 2 ^ 64 * 2 ^ 64 := Nat.mul_le_mul (Nat.le_of_lt l0) (by rw [p63] at p6; rw [p64]; omega)
      have a3 : (2 : Nat) ^ 64 * 2 ^ 64 < 2 ^ 130 := by decide
      omega
    · rw [if_neg (fun w => q (b.mp w)), if_neg q, Nat.add_zero]
      exact h) 64 0 (g_M_empty rb 130) rfl (by
    show bN (g_M_empty rb 130) 130 = _
    rw [Nat.pow_zero, Nat.mod_one, Nat.mul_zero]
    exact empty_nI rb (n := 130) (by decide))
  dsimp only
  rw [inv, Nat.mod_eq_of_lt l1]
/-! isLess, and the sum's row -/
theorem M_unit {pw : Nat → Int32} {i : Int32} (h0 : 0 ≤ (pw i.toNatClampNeg).toInt) (h1 : (pw i.toNatClampNeg).toInt ≤ 32767) : (g_M_unitOf pw i).toInt = uT (pw i.toNatClampNeg) := by
  unfold g_M_unitOf uT
  dsimp only
  generalize pw i.toNatClampNeg = p at h0 h1
  by_cases c : p = 0
  · rw [if_pos c, c]; rfl
  · have c' : ¬ p.toInt = 0 := fun q => c (Int32.toInt_inj.mp q)
    rw [if_neg c, if_neg (by omega)]
    exact i32S rfl rfl (by omega) (by omega)
theorem shb' (f : Int64) {a j : Nat} (ha : a ≤ 100000) (hj : j ≤ 100000) : (if nI j < nI a then false else if (64 : Int32) ≤ (nI j - nI a) then false else if ((aR f (nI j - nI a)) &&& 1) = 1 then true else false) = (uN f * 2 ^ a).testBit j := by
  by_cases c : a ≤ j
  · have c' : ¬ nI j < nI a := fun q => by have := (nI_ltI (a := j) (b := a) (by omega) (by omega)).mp q; omega
    rw [if_neg c', shb f c hj]
  · have c' : nI j < nI a := (nI_ltI (a := j) (b := a) (by omega) (by omega)).mpr (by omega)
    rw [if_pos c', tb_shift, decide_eq_false c, Bool.false_and]
theorem less_step (A B j : Nat) : (if A.testBit j = B.testBit j then decide (A % 2 ^ j < B % 2 ^ j) else B.testBit j) = decide (A % 2 ^ (j + 1) < B % 2 ^ (j + 1)) := by
  rw [mod_up, mod_up]
  have la : A % 2 ^ j < 2 ^ j := Nat.mod_lt _ (Nat.two_pow_pos j)
  have lb : B % 2 ^ j < 2 ^ j := Nat.mod_lt _ (Nat.two_pow_pos j)
  generalize A % 2 ^ j = a at la ⊢
  generalize B % 2 ^ j = b at lb ⊢
  generalize 2 ^ j = P at la lb ⊢
  cases A.testBit j <;> cases B.testBit j
  · rw [if_pos rfl, if_neg nff]; rfl
  · rw [if_neg (by decide), if_neg nff, if_pos ytt]
    exact (decide_eq_true (by omega)).symm
  · rw [if_neg (by decide), if_pos ytt, if_neg nff]
    exact (decide_eq_false (by omega)).symm
  · rw [if_pos rfl, if_pos ytt]
    apply decide_eq_decide.mpr
    omega
theorem M_less_is {pw : Nat → Int32} {pt : Nat → Int64} {m : Int32} {a0 a1 : Nat} (hm : (if (g_M_unitOf pw 1) ≤ (g_M_unitOf pw 0) then (g_M_unitOf pw 1) else (g_M_unitOf pw 0)) = m) (h0 : (g_M_unitOf pw 0) - m = nI a0) (h1 : (g_M_unitOf pw 1) - m = nI a1) (l0 : a0 ≤ 32936) (l1 : a1 ≤ 32936) : g_M_isLess pw pt = decide (uN (pt 0) * 2 ^ a0 < uN (pt 1) * 2 ^ a1) := by
  obtain ⟨b, hb⟩ : ∃ b, b = max a0 a1 := ⟨_, rfl⟩
  have eb : (if nI a1 ≤ nI a0 then nI a0 else nI a1) = nI b := by
    by_cases c : a1 ≤ a0
    · rw [if_pos (nI_le c (by omega))]
      exact congrArg nI (by omega)
    · rw [if_neg (nI_ge (by omega) (by omega))]
      exact congrArg nI (by omega)
  have e64 : nI b + 64 = nI (b + 64) := nI_add b 64
  have hr : lrun (nx_M_isLess_49 pw pt m) 33000 (false, 0) = (fun (r : Bool) => (r, nI (b + 64))) (iterUp (fun j (r : Bool) => if (uN (pt 0) * 2 ^ a0).testBit j = (uN (pt 1) * 2 ^ a1).testBit j then r else (uN (pt 1) * 2 ^ a1).testBit j) 0 (b + 64) false) := by
    refine lrun_up (nx_M_isLess_49 pw pt m) (fun j (r : Bool) => (r, nI j)) (fun j (r : Bool) => if (uN (pt 0) * 2 ^ a0).testBit j = (uN (pt 1) * 2 ^ a1).testBit j then r else (uN (pt 1) * 2 ^ a1).testBit j) (b + 64) ?_ ?_ (b + 64) 0 false (by omega) 33000 (by omega)
    · intro j r hj
      unfold nx_M_isLess_49
      dsimp only
      rw [h0, h1, eb, e64, if_neg (nI_ge hj (by omega)), c_0, c_1, shb' (pt 0) (by omega) (by omega), shb' (pt 1) (by omega) (by omega), nI_1]
    · intro r
      unfold nx_M_isLess_49
      dsimp only
      rw [h0, h1, eb, e64, if_pos (nI_le (Nat.le_refl _) (by omega))]
  have inv := iterUp_inv (fun j (r : Bool) => if (uN (pt 0) * 2 ^ a0).testBit j = (uN (pt 1) * 2 ^ a1).testBit j then r else (uN (pt 1) * 2 ^ a1).testBit j) (fun j (r : Bool) => r = decide ((uN (pt 0) * 2 ^ a0) % 2 ^ j < (uN (pt 1) * 2 ^ a1) % 2 ^ j)) (b + 64) (by
    intro j r _ h
    try dsimp only
    rw [h, less_step]) (b + 64) 0 false (by omega) (by
    show false = _
    rw [Nat.pow_zero, Nat.mod_one, Nat.mod_one]
    rfl)
  have big : ∀ (f : Int64) {a : Nat}, a ≤ b → uN f * 2 ^ a < 2 ^ (b + 64) := by
    intro f a ha
    have e : 2 ^ (b + 64) = 2 ^ 64 * 2 ^ b := by rw [← Nat.pow_add]; exact pow_eq (by omega)
    rw [e]
    exact Nat.mul_lt_mul_of_lt_of_le (uN_lt' f) (Nat.pow_le_pow_right (by decide) ha) (Nat.two_pow_pos b)
  rw [Nat.mod_eq_of_lt (big (pt 0) (show a0 ≤ b by omega)), Nat.mod_eq_of_lt (big (pt 1) (show a1 ≤ b by omega))] at inv
  unfold g_M_isLess
  dsimp only
  rw [hm, hr]
  exact inv
