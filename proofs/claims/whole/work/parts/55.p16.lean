/-! Pure rows, 16: the reference's root's row. -/
theorem V2_x4 {hi lo y : Int64} (h : uN hi < 2 ^ 62) (hy : uN y < 4) : V2 ((sL hi 2) ||| (uR lo 62)) ((sL lo 2) ||| y) = 4 * V2 hi lo + uN y := by
  have p62 : (2 : Nat) ^ 62 = 4611686018427387904 := by decide
  have a1 : uN (sL hi 2) = uN hi * 2 ^ 2 % 2 ^ 64 := uN_sL hi (d := 2) (by decide)
  have a2 : uN (sL lo 2) = uN lo * 2 ^ 2 % 2 ^ 64 := uN_sL lo (d := 2) (by decide)
  have a3 : uN (uR lo 62) = uN lo / 2 ^ 62 := uN_uR lo (d := 62) (by decide)
  have l := uN_lt lo
  have b1 : uN hi * 2 ^ 2 % 2 ^ 64 = uN hi * 2 ^ 2 := by rw [p62] at h; rw [p64]; omega
  have b2 : uN lo * 2 ^ 2 % 2 ^ 64 = (uN lo % 4611686018427387904) * 2 ^ 2 := by rw [p64]; omega
  have b3 : uN lo / 2 ^ 62 < 2 ^ 2 := by rw [p62]; omega
  have c : uN ((sL hi 2) ||| (uR lo 62)) = uN hi * 2 ^ 2 + uN lo / 2 ^ 62 := by
    rw [uN_orN, a1, a3, b1]
    exact or_add b3
  have d : uN ((sL lo 2) ||| y) = (uN lo % 4611686018427387904) * 2 ^ 2 + uN y := by
    rw [uN_orN, a2, b2]
    exact or_add hy
  unfold V2
  rw [c, d, p62, p64]
  omega
theorem V2_x2 {hi lo y : Int64} (h : uN hi < 2 ^ 63) (hy : uN y < 2) : V2 ((sL hi 1) ||| (uR lo 63)) ((sL lo 1) ||| y) = 2 * V2 hi lo + uN y := by
  have a2 : uN (sL lo 1) = uN lo * 2 ^ 1 % 2 ^ 64 := uN_sL lo (d := 1) (by decide)
  have l := uN_lt lo
  have b2 : uN lo * 2 ^ 1 % 2 ^ 64 = (uN lo % 9223372036854775808) * 2 ^ 1 := by rw [p64]; omega
  have d : uN ((sL lo 1) ||| y) = uN (sL lo 1) + uN y := by
    rw [uN_orN, a2, b2]
    exact or_add hy
  have v := V2_dbl (lo := lo) h
  unfold V2 at v ⊢
  rw [d]
  omega
theorem cmp_words (ah al th tl : Int64) : (if ah = th then if (g_M_below al tl) = true then false else true else if (g_M_below ah th) = true then false else true) = decide (V2 th tl ≤ V2 ah al) := by
  have l2 := uN_lt al
  have l4 := uN_lt tl
  unfold V2
  rw [M_below_is, M_below_is, p64]
  by_cases a : ah = th
  · rw [if_pos a, a]
    by_cases b : uN al < uN tl
    · rw [decide_eq_true b, if_pos ytt, decide_eq_false (by omega)]
    · rw [decide_eq_false b, if_neg nff, decide_eq_true (by omega)]
  · have a' : ¬ uN ah = uN th := fun q => a (uN_inj q)
    rw [if_neg a]
    by_cases b : uN ah < uN th
    · rw [decide_eq_true b, if_pos ytt, decide_eq_false (by omega)]
    · rw [decide_eq_false b, if_neg nff, decide_eq_true (by omega)]
theorem sub_words {ah al th tl : Int64} (h : V2 th tl ≤ V2 ah al) : V2 ((ah - th) - (if (g_M_below al tl) = true then 1 else 0)) (al - tl) = V2 ah al - V2 th tl := by
  have l1 := uN_lt ah
  have l2 := uN_lt al
  have l3 := uN_lt th
  have l4 := uN_lt tl
  have u1 : uN 1 = 1 := rfl
  have u0 : uN 0 = 0 := rfl
  unfold V2 at h ⊢
  rw [p64] at h
  rw [uN_sub, uN_sub, uN_sub, M_below_is, p64]
  by_cases c : uN al < uN tl
  · rw [decide_eq_true c, if_pos ytt, u1]
    omega
  · rw [decide_eq_false c, if_neg nff, u0]
    omega
/-- a bit of the radicand -/
theorem rad_bit (f : Int64) (odd : Bool) {k : Nat} (hk : k ≤ 1000) : (if ((nI k - 140) - (b2i odd)) < 0 then (0 : Int32) else if 64 ≤ ((nI k - 140) - (b2i odd)) then 0 else (((aR f ((nI k - 140) - (b2i odd))) &&& 1).toInt32)) = if (uN f * 2 ^ (140 + (if odd = true then 1 else 0))).testBit k = true then 1 else 0 := by
  obtain ⟨o, ho, eo, io⟩ : ∃ o : Nat, o ≤ 1 ∧ (if odd = true then 1 else 0) = o ∧ (b2i odd).toInt = o := by
    cases odd
    · exact ⟨0, by decide, rfl, rfl⟩
    · exact ⟨1, by decide, rfl, rfl⟩
  have x1 : (nI k - 140).toInt = k - 140 := i32S (nI_toInt (by omega)) rfl (by omega) (by omega)
  have x2 : ((nI k - 140) - (b2i odd)).toInt = k - 140 - o := i32S x1 io (by omega) (by omega)
  have z0 : (((nI k - 140) - (b2i odd)) < 0) ↔ ((k : Int) - 140 - o < 0) := by rw [Int32.lt_iff_toInt_lt, x2]; rfl
  rw [eo, tb_shift]
  by_cases c : k < 140 + o
  · rw [if_pos (z0.mpr (by omega)), decide_eq_false (show ¬ 140 + o ≤ k by omega), Bool.false_and, if_neg nff]
  · rw [if_neg (fun w => by have := z0.mp w; omega)]
    have e : (nI k - 140) - (b2i odd) = nI (k - (140 + o)) := by
      apply Int32.toInt_inj.mp
      rw [x2, nI_toInt (by omega)]
      omega
    rw [e, decide_eq_true (show 140 + o ≤ k by omega), Bool.true_and]
    by_cases d : 64 ≤ k - (140 + o)
    · have d' : (64 : Int32) ≤ nI (k - (140 + o)) := show nI 64 ≤ _ from nI_le d (by omega)
      rw [if_pos d', tb_high (uN_lt' f) d, if_neg nff]
    · have d' : ¬ (64 : Int32) ≤ nI (k - (140 + o)) := show ¬ nI 64 ≤ _ from nI_ge (by omega) (by omega)
      rw [if_neg d']
      have u := uN_aRb f (k := k - (140 + o)) (by omega)
      by_cases q : (uN f).testBit (k - (140 + o)) = true
      · rw [if_pos q] at u ⊢
        have : (aR f (nI (k - (140 + o)))) &&& 1 = 1 := uN_inj (u.trans rfl)
        rw [this]
        rfl
      · rw [if_neg q] at u ⊢
        have : (aR f (nI (k - (140 + o)))) &&& 1 = 0 := uN_inj (u.trans rfl)
        rw [this]
        rfl
theorem two_bits (pt : Nat → Int64) (odd : Bool) {j : Nat} (hj : j < 104) : uN ((lrun (nx_M_root_90 pt odd (nI j)) 2 (0, 1)).1.toInt64) = uN (pt 0) * 2 ^ (140 + (if odd = true then 1 else 0)) / 2 ^ (2 * j) % 4 := by
  have e2 : (2 : Int32) * nI j = nI (2 * j) := nI_mul 2 j
  have ey : (if odd = true then true else false) = odd := by cases odd <;> rfl
  have b1 := rad_bit (pt 0) odd (k := 2 * j + 1) (by omega)
  have b0 := rad_bit (pt 0) odd (k := 2 * j) (by omega)
  have s1 : nx_M_root_90 pt odd (nI j) (0, 1) = some (2 * 0 + (if (uN (pt 0) * 2 ^ (140 + (if odd = true then 1 else 0))).testBit (2 * j + 1) = true then 1 else 0), 0) := by
    unfold nx_M_root_90
    dsimp only
    have c1 : ¬ (1 : Int32) < 0 := by decide
    have e1 : nI (2 * j) + 1 = nI (2 * j + 1) := nI_1 _
    rw [if_neg c1, e2, e1, ey, c_0, b1]
    rfl
  have s0 : ∀ v : Int32, nx_M_root_90 pt odd (nI j) (v, 0) = some (2 * v + (if (uN (pt 0) * 2 ^ (140 + (if odd = true then 1 else 0))).testBit (2 * j) = true then 1 else 0), -1) := by
    intro v
    unfold nx_M_root_90
    dsimp only
    have c1 : ¬ (0 : Int32) < 0 := by decide
    have e1 : nI (2 * j) + 0 = nI (2 * j) := Int32.add_zero _
    rw [if_neg c1, e2, e1, ey, c_0, b0]
    rfl
  rw [lrun_some s1, lrun_some (s0 _), lrun_zero]
  have t1 := tb_is (uN (pt 0) * 2 ^ (140 + (if odd = true then 1 else 0))) (2 * j + 1)
  have t0 := tb_is (uN (pt 0) * 2 ^ (140 + (if odd = true then 1 else 0))) (2 * j)
  generalize uN (pt 0) * 2 ^ (140 + (if odd = true then 1 else 0)) = G at t1 t0 ⊢
  have e : G / 2 ^ (2 * j + 1) = G / 2 ^ (2 * j) / 2 := by rw [Nat.div_div_eq_div_mul, ← Nat.pow_succ]
  rw [e] at t1
  generalize G / 2 ^ (2 * j) = Y at t1 t0 ⊢
  dsimp only
  by_cases q1 : G.testBit (2 * j + 1) = true
  · have w1 := t1.mp q1
    rw [if_pos q1]
    by_cases q0 : G.testBit (2 * j) = true
    · have w0 := t0.mp q0
      rw [if_pos q0]
      show 3 = Y % 4
      omega
    · have w0 := mt t0.mpr q0
      rw [if_neg q0]
      show 2 = Y % 4
      omega
  · have w1 := mt t1.mpr q1
    rw [if_neg q1]
    by_cases q0 : G.testBit (2 * j) = true
    · have w0 := t0.mp q0
      rw [if_pos q0]
      show 1 = Y % 4
      omega
    · have w0 := mt t0.mpr q0
      rw [if_neg q0]
      show 0 = Y % 4
      omega
noncomputable def fMR (pt : Nat → Int64) (odd : Bool) (j : Nat) (r : Int64 × Int64 × Int64 × Int64 × (Nat → Bool)) : Int64 × Int64 × Int64 × Int64 × (Nat → Bool) :=
  let ah : Int64 := (sL r.1 2) ||| (uR r.2.1 62)
  let al : Int64 := (sL r.2.1 2) ||| ((lrun (nx_M_root_90 pt odd (nI j)) 2 (0, 1)).1.toInt64)
  let th : Int64 := (sL r.2.2.1 2) ||| (uR r.2.2.2.1 62)
  let tl : Int64 := (sL r.2.2.2.1 2) ||| 1
  let c : Bool := if ah = th then if (g_M_below al tl) = true then false else true else if (g_M_below ah th) = true then false else true
  ((if c = true then ((ah - th) - (if (g_M_below al tl) = true then 1 else 0)) else ah), (if c = true then (al - tl) else al), ((sL r.2.2.1 1) ||| (uR r.2.2.2.1 63)), ((sL r.2.2.2.1 1) ||| (if c = true then 1 else 0)), updB r.2.2.2.2 j c)
def iMR (G : Nat) (j : Nat) (r : Int64 × Int64 × Int64 × Int64 × (Nat → Bool)) : Prop :=
  G / 2 ^ (2 * j) = V2 r.2.2.1 r.2.2.2.1 * V2 r.2.2.1 r.2.2.2.1 + V2 r.1 r.2.1 ∧ V2 r.1 r.2.1 ≤ 2 * V2 r.2.2.1 r.2.2.2.1 ∧ V2 r.2.2.1 r.2.2.2.1 < 2 ^ (104 - j) ∧ (∀ k, k < j → r.2.2.2.2 k = false) ∧ bN r.2.2.2.2 104 = V2 r.2.2.1 r.2.2.2.1 * 2 ^ j
theorem sq_dbl (Q : Nat) : 2 * Q * (2 * Q) = 4 * (Q * Q) := by rw [Nat.mul_mul_mul_comm]
theorem sq_dbl1 (Q : Nat) : (2 * Q + 1) * (2 * Q + 1) = 4 * (Q * Q) + 4 * Q + 1 := by
  rw [Nat.add_mul, Nat.mul_add, sq_dbl]
  omega
theorem mroot_step {pt : Nat → Int64} {odd : Bool} {j : Nat} (hj : j < 104) {r : Int64 × Int64 × Int64 × Int64 × (Nat → Bool)} (h : iMR (uN (pt 0) * 2 ^ (140 + (if odd = true then 1 else 0))) (j + 1) r) : iMR (uN (pt 0) * 2 ^ (140 + (if odd = true then 1 else 0))) j (fMR pt odd j r) := by
  obtain ⟨rh, rl, qh, ql, row⟩ := r
  obtain ⟨h1, h2, h3, h4, h5⟩ := h
  dsimp only at h1 h2 h3 h4 h5
  have tb := two_bits pt odd hj
  have e1 : uN (pt 0) * 2 ^ (140 + (if odd = true then 1 else 0)) / 2 ^ (2 * (j + 1)) = uN (pt 0) * 2 ^ (140 + (if odd = true then 1 else 0)) / 2 ^ (2 * j) / 4 := by
    rw [Nat.div_div_eq_div_mul]
    have : 2 ^ (2 * (j + 1)) = 2 ^ (2 * j) * 4 := by
      have e4 : (4 : Nat) = 2 ^ 2 := rfl
      rw [e4, ← Nat.pow_add]
      exact pow_eq (by omega)
    rw [this]
  rw [e1] at h1
  have q103 : V2 qh ql < 2 ^ 103 := Nat.lt_of_lt_of_le h3 (Nat.pow_le_pow_right (by decide) (by omega))
  have p103 : (2 : Nat) ^ 103 = 10141204801825835211973625643008 := by decide
  have p62 : (2 : Nat) ^ 62 = 4611686018427387904 := by decide
  rw [p103] at q103
  have bq : uN qh < 2 ^ 62 := by
    unfold V2 at q103
    rw [p64] at q103
    rw [p62]
    omega
  have br : uN rh < 2 ^ 62 := by
    have h2' := h2
    generalize V2 qh ql = Q at h2' q103
    unfold V2 at h2'
    rw [p64] at h2'
    rw [p62]
    omega
  have bq3 : uN qh < 2 ^ 63 := by rw [p62] at bq; rw [p63]; omega
  have pj : 2 ^ (j + 1) = 2 ^ j * 2 := Nat.pow_succ _ _
  have pk : 2 ^ (104 - j) = 2 ^ (104 - (j + 1)) * 2 := by rw [← Nat.pow_succ]; exact pow_eq (by omega)
  unfold fMR iMR
  dsimp only
  generalize uN (pt 0) * 2 ^ (140 + (if odd = true then 1 else 0)) / 2 ^ (2 * j) = X at h1 tb ⊢
  generalize (lrun (nx_M_root_90 pt odd (nI j)) 2 (0, 1)).1.toInt64 = v at tb ⊢
  have va := V2_x4 (lo := rl) br (y := v) (by rw [tb]; exact Nat.mod_lt _ (by decide))
  have vt := V2_x4 (lo := ql) bq (y := 1) (by decide)
  have u1 : uN 1 = 1 := rfl
  rw [tb] at va
  rw [u1] at vt
  rw [cmp_words]
  generalize (sL rh 2) ||| (uR rl 62) = ah at va ⊢
  generalize (sL rl 2) ||| v = al at va ⊢
  generalize (sL qh 2) ||| (uR ql 62) = th at vt ⊢
  generalize (sL ql 2) ||| 1 = tl at vt ⊢
  by_cases c : V2 th tl ≤ V2 ah al
  · have n := V2_x2 (lo := ql) bq3 (y := 1) (by decide)
    have s := sub_words c
    rw [u1] at n
    rw [decide_eq_true c, if_pos ytt, if_pos ytt, if_pos ytt, n, s, sq_dbl1]
    rw [va, vt] at c ⊢
    generalize V2 qh ql * V2 qh ql = QQ at h1 ⊢
    refine ⟨by omega, by omega, by omega, ?_, ?_⟩
    · intro k hk
      unfold updB
      rw [if_neg (by omega)]
      exact h4 k (by omega)
    · rw [bN_upd hj (h4 j (by omega)), if_pos ytt, h5, pj, Nat.add_mul, Nat.one_mul, Nat.mul_comm 2, Nat.mul_assoc, Nat.mul_comm 2]
  · have n := V2_x2 (lo := ql) bq3 (y := 0) (by decide)
    have u0 : uN 0 = 0 := rfl
    rw [u0, Nat.add_zero] at n
    rw [decide_eq_false c, if_neg nff, if_neg nff, if_neg nff, n, sq_dbl]
    rw [va, vt] at c
    rw [va]
    generalize V2 qh ql * V2 qh ql = QQ at h1 ⊢
    refine ⟨by omega, by omega, by omega, ?_, ?_⟩
    · intro k hk
      unfold updB
      rw [if_neg (by omega)]
      exact h4 k (by omega)
    · rw [bN_upd hj (h4 j (by omega)), if_neg nff, h5, pj, Nat.add_zero, Nat.mul_comm 2, Nat.mul_assoc, Nat.mul_comm 2]
theorem M_root_row (pt : Nat → Int64) (rb : Nat → Bool) (odd : Bool) : ∃ w : Int64 × Int64 × Int64 × Int64 × Int32 × (Nat → Bool), lrun (nx_M_root_79 pt odd) 104 (0, 0, 0, 0, 103, g_M_empty rb 104) = w ∧ ∃ R, uN (pt 0) * 2 ^ (140 + (if odd = true then 1 else 0)) = bN w.2.2.2.2.2 104 * bN w.2.2.2.2.2 104 + R ∧ R ≤ 2 * bN w.2.2.2.2.2 104 ∧ (if (w.1 ||| w.2.1) = 0 then false else true) = decide (R ≠ 0) := by
  have hr : lrun (nx_M_root_79 pt odd) 104 (0, 0, 0, 0, 103, g_M_empty rb 104) = (fun r : Int64 × Int64 × Int64 × Int64 × (Nat → Bool) => (r.1, r.2.1, r.2.2.1, r.2.2.2.1, nI 0 + (-1), r.2.2.2.2)) (iterDn (fMR pt odd) 104 (0, 0, 0, 0, g_M_empty rb 104)) := by
    refine lrun_dn (nx_M_root_79 pt odd) (fun j (r : Int64 × Int64 × Int64 × Int64 × (Nat → Bool)) => (r.1, r.2.1, r.2.2.1, r.2.2.2.1, nI j + (-1), r.2.2.2.2)) (fMR pt odd) 104 ?_ ?_ 104 (0, 0, 0, 0, g_M_empty rb 104) (Nat.le_refl _) 104 (Nat.le_refl _)
    · intro j r hj
      unfold nx_M_root_79 fMR
      dsimp only
      rw [pk_m1, if_neg (nI_pos (by omega)), nI_clamp (by omega)]
    · intro r
      unfold nx_M_root_79
      dsimp only
      rw [if_pos (by decide)]
  have e0 := empty_nI rb (n := 104) (by decide)
  have inv := iterDn_inv (fMR pt odd) (iMR (uN (pt 0) * 2 ^ (140 + (if odd = true then 1 else 0)))) 104 (fun j r hj h => mroot_step hj h) 104 (0, 0, 0, 0, g_M_empty rb 104) (Nat.le_refl _) (by
    have l := uN_lt' (pt 0)
    have z : uN (pt 0) * 2 ^ (140 + (if odd = true then 1 else 0)) / 2 ^ (2 * 104) = 0 := by
      apply Nat.div_eq_of_lt
      have le : 2 ^ (140 + (if odd = true then 1 else 0)) ≤ 2 ^ 141 := Nat.pow_le_pow_right (by decide) (by cases odd <;> decide)
      have : uN (pt 0) * 2 ^ (140 + (if odd = true then 1 else 0)) < 2 ^ 64 * 2 ^ 141 := Nat.mul_lt_mul_of_lt_of_le l le (Nat.two_pow_pos _)
      rw [← Nat.pow_add] at this
      exact Nat.lt_of_lt_of_le this (Nat.pow_le_pow_right (by decide) (by decide))
    have v0 : V2 0 0 = 0 := rfl
    refine ⟨?_, ?_, ?_, bN0_bits e0, ?_⟩
    · dsimp only; rw [z, v0]
    · dsimp only; rw [v0]; exact Nat.zero_le _
    · dsimp only; rw [v0]; exact Nat.two_pow_pos _
    · dsimp only; rw [v0, Nat.zero_mul]; exact e0)
  refine ⟨_, hr, ?_⟩
  generalize iterDn (fMR pt odd) 104 (0, 0, 0, 0, g_M_empty rb 104) = w at inv
  obtain ⟨rh, rl, qh, ql, row⟩ := w
  obtain ⟨i1, i2, _, _, i5⟩ := inv
  dsimp only at i1 i2 i5 ⊢
  rw [Nat.mul_zero, Nat.pow_zero, Nat.div_one] at i1
  rw [Nat.pow_zero, Nat.mul_one] at i5
  rw [← i5] at i1 i2
  refine ⟨V2 rh rl, i1, i2, ?_⟩
  have zz : (rh ||| rl = 0) ↔ V2 rh rl = 0 := by
    rw [uN_z, uN_orN, Nat.or_eq_zero_iff]
    unfold V2
    rw [p64]
    omega
  by_cases c : rh ||| rl = 0
  · rw [if_pos c, zz.mp c]; rfl
  · rw [if_neg c, decide_eq_true (show V2 rh rl ≠ 0 from mt zz.mpr c)]
