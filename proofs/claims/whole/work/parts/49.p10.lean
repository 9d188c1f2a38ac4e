/-! Pure rows, 10: the class's sizes: normalize, take, shiftRight, takeProduct, add, subtract, multiply. -/
theorem uN_sub (y z : Int64) : uN (y - z) = (uN y + (2 ^ 64 - uN z)) % 2 ^ 64 := by
  show (y.toUInt64 - z.toUInt64).toNat = _
  rw [UInt64.toNat_sub]
  have := z.toUInt64.toNat_lt
  show (2 ^ 64 - z.toUInt64.toNat + y.toUInt64.toNat) % 2 ^ 64 = _
  rw [Nat.add_comm]
  rfl
theorem uN_orN (x y : Int64) : uN (x ||| y) = uN x ||| uN y := UInt64.toNat_or _ _
theorem or_add {a b k : Nat} (hb : b < 2 ^ k) : (a * 2 ^ k) ||| b = a * 2 ^ k + b := by
  rw [Nat.mul_comm]
  exact (Nat.two_pow_add_eq_or_of_lt hb a).symm
theorem i64_lt0 (x : Int64) : (x < 0) ↔ 2 ^ 63 ≤ uN x := by
  have e0 : (0 : Int64).toInt = 0 := rfl
  have := uN_lt x
  rw [Int64.lt_iff_toInt_lt, uN_int, e0, p63]
  split <;> omega
theorem p127 : (2 : Nat) ^ 127 = 170141183460469231731687303715884105728 := by decide
theorem p128 : (2 : Nat) ^ 128 = 340282366920938463463374607431768211456 := by decide
theorem p32 : (2 : Nat) ^ 32 = 4294967296 := by decide
def V2 (hi lo : Int64) : Nat := uN hi * 2 ^ 64 + uN lo
theorem V2_lt (hi lo : Int64) : V2 hi lo < 2 ^ 128 := by
  have a := uN_lt hi
  have b := uN_lt lo
  unfold V2
  rw [p64, p128]
  omega
theorem V2_0 (hi : Int64) : V2 hi 0 = uN hi * 2 ^ 64 := by
  have u0 : uN 0 = 0 := rfl
  unfold V2
  rw [u0, Nat.add_zero]
theorem even64 (x : Nat) : x * 2 ^ 64 % 2 = 0 := by omega
theorem even63 (x : Nat) : x * 2 ^ 63 % 2 = 0 := by omega
theorem V2_eq (hi lo : Int64) : V2 hi lo = uN hi * 18446744073709551616 + uN lo := by
  unfold V2
  rw [p64]
theorem V2_hi {hi lo : Int64} (h : 2 ^ 127 ≤ V2 hi lo) : 2 ^ 63 ≤ uN hi := by
  have b := uN_lt lo
  unfold V2 at h
  rw [p127, p64] at h
  rw [p63]
  omega
theorem V2_zero (hi lo : Int64) : g_S_isZero hi lo = true ↔ V2 hi lo = 0 := by
  unfold g_S_isZero V2
  by_cases a : hi = 0
  · rw [if_pos a]
    rw [uN_z] at a
    by_cases b : lo = 0
    · rw [if_pos b]
      rw [uN_z] at b
      rw [a, b]
      exact ⟨fun _ => rfl, fun _ => rfl⟩
    · rw [if_neg b]
      rw [uN_z] at b
      exact ⟨fun q => absurd q nff, fun q => absurd q (by omega)⟩
  · rw [if_neg a]
    rw [uN_z] at a
    exact ⟨fun q => absurd q nff, fun q => absurd q (by rw [p64]; omega)⟩
theorem V2_dbl {hi lo : Int64} (h : uN hi < 2 ^ 63) : V2 ((sL hi 1) ||| (uR lo 63)) (sL lo 1) = 2 * V2 hi lo := by
  have a1 : uN (sL hi 1) = uN hi * 2 ^ 1 % 2 ^ 64 := uN_sL hi (d := 1) (by decide)
  have a2 : uN (sL lo 1) = uN lo * 2 ^ 1 % 2 ^ 64 := uN_sL lo (d := 1) (by decide)
  have a3 : uN (uR lo 63) = uN lo / 2 ^ 63 := uN_uR lo (d := 63) (by decide)
  have l := uN_lt lo
  have b1 : uN hi * 2 ^ 1 % 2 ^ 64 = uN hi * 2 ^ 1 := by rw [p63] at h; rw [p64]; omega
  have b3 : uN lo / 2 ^ 63 < 2 ^ 1 := by rw [p63]; omega
  have c : uN ((sL hi 1) ||| (uR lo 63)) = uN hi * 2 ^ 1 + uN lo / 2 ^ 63 := by
    rw [uN_orN, a1, a3, b1]
    exact or_add b3
  unfold V2
  rw [c, a2, p63, p64]
  omega
theorem norm_loop : ∀ (f j : Nat) (hi lo : Int64) (ex : Int32), j + f = 128 → 2 ^ 127 ≤ V2 hi lo * 2 ^ f → -1000000 ≤ ex.toInt - f → ex.toInt ≤ 1000000 →
    ∃ (s : Nat) (j' : Int32) (hi' lo' : Int64) (ex' : Int32), lrun nx_S_normalize_17 f (nI j, hi, lo, ex) = (j', hi', lo', ex') ∧ s ≤ f ∧ ex'.toInt = ex.toInt - s ∧ V2 hi' lo' = V2 hi lo * 2 ^ s ∧ 2 ^ 63 ≤ uN hi' := by
  intro f
  induction f with
  | zero =>
    intro j hi lo ex hj hv h1 h2
    rw [Nat.pow_zero, Nat.mul_one] at hv
    exact ⟨0, nI j, hi, lo, ex, lrun_zero _ _, Nat.le_refl _, by omega, by rw [Nat.pow_zero, Nat.mul_one], V2_hi hv⟩
  | succ f ih =>
    intro j hi lo ex hj hv h1 h2
    by_cases c : hi < 0
    · have e : nx_S_normalize_17 (nI j, hi, lo, ex) = none := by
        unfold nx_S_normalize_17
        dsimp only
        rw [if_pos c]
        split <;> rfl
      exact ⟨0, nI j, hi, lo, ex, lrun_none e _, Nat.zero_le _, by omega, by rw [Nat.pow_zero, Nat.mul_one], (i64_lt0 hi).mp c⟩
    · have cj : ¬ (128 : Int32) ≤ nI j := show ¬ nI 128 ≤ nI j from nI_ge (by omega) (by omega)
      have e : nx_S_normalize_17 (nI j, hi, lo, ex) = some (nI (j + 1), ((sL hi 1) ||| (uR lo 63)), (sL lo 1), ex - 1) := by
        unfold nx_S_normalize_17
        dsimp only
        rw [if_neg cj, if_neg c, nI_1]
      have hh : uN hi < 2 ^ 63 := Nat.lt_of_not_le (fun q => c ((i64_lt0 hi).mpr q))
      have d := V2_dbl (lo := lo) hh
      have x1 : (ex - 1).toInt = ex.toInt - 1 := i32S rfl rfl (by omega) (by omega)
      obtain ⟨s, j', hi', lo', ex', r, s1, s2, s3, s4⟩ := ih (j + 1) _ (sL lo 1) (ex - 1) (by omega) (by rw [d, Nat.mul_comm 2, Nat.mul_assoc, ← Nat.pow_succ']; exact hv) (by rw [x1]; omega) (by rw [x1]; omega)
      refine ⟨s + 1, j', hi', lo', ex', ?_, by omega, by omega, ?_, s4⟩
      · rw [lrun_some e]; exact r
      · rw [s3, d, Nat.mul_comm 2, Nat.mul_assoc, ← Nat.pow_succ']
theorem S_norm {hi lo : Int64} {ex : Int32} (h : ¬ V2 hi lo = 0) (h1 : -500000 ≤ ex.toInt) (h2 : ex.toInt ≤ 500000) : ∃ (s : Nat) (hi' lo' : Int64) (ex' : Int32), g_S_normalize hi lo ex = (hi', lo', ex') ∧ s ≤ 128 ∧ ex'.toInt = ex.toInt - s ∧ V2 hi' lo' = V2 hi lo * 2 ^ s ∧ 2 ^ 63 ≤ uN hi' := by
  have hz : ¬ g_S_isZero hi lo = true := fun q => h ((V2_zero hi lo).mp q)
  have h9 : 2 ^ 127 ≤ V2 hi lo * 2 ^ 128 := Nat.le_trans (show 2 ^ 127 ≤ 1 * 2 ^ 128 by decide) (Nat.mul_le_mul_right _ (by omega))
  obtain ⟨s, j', hi', lo', ex', r, s1, s2, s3, s4⟩ := norm_loop 128 0 hi lo ex rfl h9 (by omega) (by omega)
  refine ⟨s, hi', lo', ex', ?_, s1, s2, s3, s4⟩
  have r' : lrun nx_S_normalize_17 128 (0, hi, lo, ex) = (j', hi', lo', ex') := r
  unfold g_S_normalize
  dsimp only
  rw [if_neg hz, r']
theorem S_norm0 {hi lo : Int64} (ex : Int32) (h : V2 hi lo = 0) : g_S_normalize hi lo ex = (hi, lo, -20000) := by
  unfold g_S_normalize
  rw [if_pos ((V2_zero hi lo).mpr h)]
/-- how many digits a normalized number can have been moved -/
theorem norm_le {V N s t : Nat} (h : V = N * 2 ^ s) (hV : V < 2 ^ 128) (hN : 2 ^ t ≤ N) (ht : t ≤ 127) : s + t ≤ 127 := by
  have a : 2 ^ t * 2 ^ s ≤ V := by rw [h]; exact Nat.mul_le_mul_right _ hN
  rw [← Nat.pow_add] at a
  have b : t + s < 128 := (Nat.pow_lt_pow_iff_right (a := 2) (by decide)).mp (Nat.lt_of_le_of_lt a hV)
  omega
/-- the unit of a register's last digit -/
def uT (p : Int32) : Int := (if p.toInt < 1 then 1 else p.toInt) - 16446
theorem uT_rng {p : Int32} (h : 0 ≤ p.toInt) (h2 : p.toInt ≤ 32767) : -16445 ≤ uT p ∧ uT p ≤ 16321 := by
  unfold uT
  split <;> omega
theorem S_take_is {p : Int32} (hp : 0 ≤ p.toInt) (hp2 : p.toInt ≤ 32767) {f : Int64} (hf : ¬ f = 0) : ∃ (s : Nat) (h : Int64) (e : Int32), g_S_take p f = (h, 0, e) ∧ s ≤ 63 ∧ e.toInt = uT p - s ∧ uN h = uN f * 2 ^ s ∧ 2 ^ 63 ≤ uN h := by
  have r := uT_rng hp hp2
  have fl := uN_lt f
  rw [uN_z] at hf
  have e0 : ((if p < 1 then 1 else p) - 16446).toInt = uT p := by
    unfold uT
    by_cases c : p < 1
    · have c' : p.toInt < 1 := by rw [Int32.lt_iff_toInt_lt] at c; exact c
      rw [if_pos c, if_pos c']; rfl
    · have c' : ¬ p.toInt < 1 := by rw [Int32.lt_iff_toInt_lt] at c; exact c
      rw [if_neg c, if_neg c']
      exact i32S rfl rfl (by omega) (by omega)
  have v0 : V2 f 0 = uN f * 2 ^ 64 := V2_0 f
  obtain ⟨s, hi', lo', ex', n1, n2, n3, n4, n5⟩ := S_norm (hi := f) (lo := 0) (ex := (if p < 1 then 1 else p) - 16446) (by rw [v0, p64]; omega) (by rw [e0]; omega) (by rw [e0]; omega)
  rw [v0] at n4
  have hs : s + 64 ≤ 127 := norm_le n4 (V2_lt _ _) (show 2 ^ 64 ≤ uN f * 2 ^ 64 by rw [p64]; omega) (by decide)
  have n6 : uN hi' * 2 ^ 64 + uN lo' = (uN f * 2 ^ s) * 2 ^ 64 := by
    rw [Nat.mul_right_comm] at n4
    exact n4
  have l := uN_lt lo'
  have k1 : uN hi' = uN f * 2 ^ s ∧ uN lo' = 0 := by
    generalize uN f * 2 ^ s = W at n6
    rw [p64] at n6
    omega
  have z : lo' = 0 := uN_z.mpr k1.2
  refine ⟨s, hi', ex', ?_, by omega, by rw [n3, e0], k1.1, n5⟩
  unfold g_S_take
  dsimp only
  rw [n1, z]
theorem S_take_0 (p : Int32) : g_S_take p 0 = (0, 0, -20000) := by
  unfold g_S_take
  dsimp only
  rw [S_norm0 _ (show V2 0 0 = 0 from rfl)]
/-! shiftRight -/
theorem jam_step (N n : Nat) : jam (jam (N / 2 ^ n) (decide (N % 2 ^ n ≠ 0)) / 2) (decide (jam (N / 2 ^ n) (decide (N % 2 ^ n ≠ 0)) % 2 ≠ 0)) = jam (N / 2 ^ (n + 1)) (decide (N % 2 ^ (n + 1) ≠ 0)) := by
  have d : (decide (jam (N / 2 ^ n) (decide (N % 2 ^ n ≠ 0)) % 2 ≠ 0)) = (decide (N % 2 ^ (n + 1) ≠ 0)) := by
    apply decide_eq_decide.mpr
    rw [Nat.pow_succ, Nat.mod_mul]
    have hp : 0 < 2 ^ n := Nat.two_pow_pos n
    by_cases m : N % 2 ^ n ≠ 0
    · rw [decide_eq_true m, jam_odd]
      exact ⟨fun _ => by omega, fun _ => by decide⟩
    · rw [decide_eq_false m, jam_false]
      have m0 : N % 2 ^ n = 0 := Classical.not_not.mp m
      rw [m0]
      rcases (show N / 2 ^ n % 2 = 0 ∨ N / 2 ^ n % 2 = 1 by omega) with q | q
      · rw [q]; exact ⟨fun h => absurd rfl h, fun h => absurd rfl h⟩
      · rw [q]; exact ⟨fun _ => by omega, fun _ => by decide⟩
  rw [d, jam_div2, Nat.div_div_eq_div_mul, ← Nat.pow_succ]
theorem or_bit (L : Nat) {b : Nat} (hb : b < 2) : L ||| b = jam L (decide (b ≠ 0)) := by
  rcases (show b = 0 ∨ b = 1 by omega) with rfl | rfl
  · rw [Nat.or_zero]; exact (jam_false L).symm
  · show L ||| 1 = jam L true
    rw [jam_true]
    have t : (L / 2) * 2 ^ 1 ||| 1 = (L / 2) * 2 ^ 1 + 1 := or_add (by decide)
    by_cases q : L % 2 = 0
    · rw [if_pos q]
      have e : L = (L / 2) * 2 ^ 1 := by omega
      rw [← e] at t
      exact t
    · rw [if_neg q]
      have e : L = (L / 2) * 2 ^ 1 ||| 1 := by rw [t]; omega
      rw [e, Nat.or_assoc, Nat.or_self]
theorem jam_add (C L : Nat) (m : Bool) (h : C % 2 = 0) : jam (C + L) m = C + jam L m := by
  cases m
  · rw [jam_false, jam_false]
  · rw [jam_true, jam_true]
    by_cases q : L % 2 = 0
    · rw [if_pos q, if_pos (by omega)]; omega
    · rw [if_neg q, if_neg (by omega)]
theorem V2_half (hi lo : Int64) : V2 (uR hi 1) (((sL hi 63) ||| (uR lo 1)) ||| (lo &&& 1)) = jam (V2 hi lo / 2) (decide (V2 hi lo % 2 ≠ 0)) := by
  have a1 : uN (uR hi 1) = uN hi / 2 ^ 1 := uN_uR hi (d := 1) (by decide)
  have a2 : uN (sL hi 63) = uN hi * 2 ^ 63 % 2 ^ 64 := uN_sL hi (d := 63) (by decide)
  have a3 : uN (uR lo 1) = uN lo / 2 ^ 1 := uN_uR lo (d := 1) (by decide)
  have l := uN_lt lo
  have b2 : uN hi * 2 ^ 63 % 2 ^ 64 = (uN hi % 2) * 2 ^ 63 := by rw [p63, p64]; omega
  have b3 : uN lo / 2 ^ 1 < 2 ^ 63 := by rw [p63]; omega
  have c : uN (((sL hi 63) ||| (uR lo 1)) ||| (lo &&& 1)) = jam ((uN hi % 2) * 2 ^ 63 + uN lo / 2 ^ 1) (decide (uN lo % 2 ≠ 0)) := by
    rw [uN_orN, uN_orN, a2, a3, b2, uN_and1, or_add b3, or_bit _ (Nat.mod_lt _ (by decide))]
  have e1 : V2 hi lo % 2 = uN lo % 2 := by have := V2_eq hi lo; omega
  have e2 : V2 hi lo / 2 = uN hi / 2 ^ 1 * 2 ^ 64 + ((uN hi % 2) * 2 ^ 63 + uN lo / 2 ^ 1) := by have := V2_eq hi lo; omega
  rw [e1, e2, jam_add _ _ _ (even64 _), ← c, ← a1]
  rfl
theorem S_shr (hi lo : Int64) (ex : Int32) {pl : Int32} {n : Nat} (hn : pl.toInt = n) : ∃ hi' lo', g_S_shiftRight hi lo ex pl = (hi', lo', ex + pl) ∧ V2 hi' lo' = jam (V2 hi lo / 2 ^ n) (decide (V2 hi lo % 2 ^ n ≠ 0)) := by
  obtain ⟨b, hb⟩ : ∃ b, b = min n 128 := ⟨_, rfl⟩
  have hb8 : b ≤ 128 := by omega
  have eb : (if (128 : Int32) < pl then 128 else pl) = nI b := by
    apply Int32.toInt_inj.mp
    rw [nI_toInt (by omega)]
    by_cases c : (128 : Int32) < pl
    · have c' : (128 : Int) < pl.toInt := by rw [Int32.lt_iff_toInt_lt] at c; exact c
      rw [if_pos c]
      show (128 : Int) = b
      omega
    · have c' : ¬ (128 : Int) < pl.toInt := by rw [Int32.lt_iff_toInt_lt] at c; exact c
      rw [if_neg c]
      omega
  have hr : lrun (nx_S_shiftRight_10 pl) 128 (0, hi, lo) = (nI b, iterUp (fun _ (r : Int64 × Int64) => (uR r.1 1, ((sL r.1 63) ||| (uR r.2 1)) ||| (r.2 &&& 1))) 0 b (hi, lo)) := by
    refine lrun_up (nx_S_shiftRight_10 pl) (fun j r => (nI j, r)) (fun _ (r : Int64 × Int64) => (uR r.1 1, ((sL r.1 63) ||| (uR r.2 1)) ||| (r.2 &&& 1))) b ?_ ?_ b 0 (hi, lo) (by omega) 128 hb8
    · intro j r hj
      unfold nx_S_shiftRight_10
      dsimp only
      rw [eb, if_neg (nI_ge hj (by omega)), nI_1]
    · intro r
      unfold nx_S_shiftRight_10
      dsimp only
      rw [eb, if_pos (nI_le (Nat.le_refl b) (by omega))]
  have inv := iterUp_inv (fun _ (r : Int64 × Int64) => (uR r.1 1, ((sL r.1 63) ||| (uR r.2 1)) ||| (r.2 &&& 1))) (fun j r => V2 r.1 r.2 = jam (V2 hi lo / 2 ^ j) (decide (V2 hi lo % 2 ^ j ≠ 0))) b (by
    intro j r _ h
    show V2 (uR r.1 1) (((sL r.1 63) ||| (uR r.2 1)) ||| (r.2 &&& 1)) = _
    rw [V2_half, h, jam_step]) b 0 (hi, lo) (by omega) (by
    show V2 hi lo = _
    rw [Nat.pow_zero, Nat.mod_one, Nat.div_one]
    exact (jam_false _).symm)
  generalize iterUp (fun _ (r : Int64 × Int64) => (uR r.1 1, ((sL r.1 63) ||| (uR r.2 1)) ||| (r.2 &&& 1))) 0 b (hi, lo) = w at hr inv
  refine ⟨w.1, w.2, ?_, ?_⟩
  · unfold g_S_shiftRight
    dsimp only
    rw [hr]
  · rw [inv]
    by_cases q : n ≤ 128
    · have e : b = n := by omega
      rw [e]
    · have e : b = 128 := by omega
      have l := V2_lt hi lo
      have l2 : V2 hi lo < 2 ^ n := Nat.lt_of_lt_of_le l (Nat.pow_le_pow_right (by decide) (by omega))
      rw [e, Nat.div_eq_of_lt l, Nat.mod_eq_of_lt l, Nat.div_eq_of_lt l2, Nat.mod_eq_of_lt l2]
/-! words added, words taken away, words multiplied -/
theorem uN_c (c : Bool) : uN ((b2i c).toInt64) = if c = true then 1 else 0 := by cases c <;> rfl
theorem V2_add {a1 a0 b1 b0 : Int64} (h : V2 a1 a0 + V2 b1 b0 < 2 ^ 128) : V2 (a1 + (b1 + ((b2i (if uN b0 ≤ uN (a0 + b0) then false else true)).toInt64))) (a0 + b0) = V2 a1 a0 + V2 b1 b0 := by
  have l1 := uN_lt a1
  have l2 := uN_lt a0
  have l3 := uN_lt b1
  have l4 := uN_lt b0
  unfold V2 at h ⊢
  rw [p64, p128] at h
  rw [uN_add, uN_add, uN_add, uN_c, p64]
  by_cases c : uN b0 ≤ (uN a0 + uN b0) % 18446744073709551616
  · rw [if_pos c, if_neg nff]
    omega
  · rw [if_neg c, if_pos ytt]
    omega
theorem V2_sub {a1 a0 b1 b0 : Int64} (h : V2 b1 b0 ≤ V2 a1 a0) : V2 (a1 - (b1 + ((b2i (if uN b0 ≤ uN a0 then false else true)).toInt64))) (a0 - b0) = V2 a1 a0 - V2 b1 b0 := by
  have l1 := uN_lt a1
  have l2 := uN_lt a0
  have l3 := uN_lt b1
  have l4 := uN_lt b0
  unfold V2 at h ⊢
  rw [p64] at h
  rw [uN_sub, uN_sub, uN_add, uN_c, p64]
  by_cases c : uN b0 ≤ uN a0
  · rw [if_pos c, if_neg nff]
    omega
  · rw [if_neg c, if_pos ytt]
    omega
theorem prod_nat {a1 a0 b1 b0 : Nat} (ha1 : a1 < 4294967296) (ha0 : a0 < 4294967296) (hb1 : b1 < 4294967296) (hb0 : b0 < 4294967296) :
    ∃ p11 p10 p01 p00, a1 * b1 = p11 ∧ a1 * b0 = p10 ∧ a0 * b1 = p01 ∧ a0 * b0 = p00 ∧ p11 ≤ 18446744065119617025 ∧ p10 ≤ 18446744065119617025 ∧ p01 ≤ 18446744065119617025 ∧ p00 ≤ 18446744065119617025 ∧ (a1 * 4294967296 + a0) * (b1 * 4294967296 + b0) = p11 * 18446744073709551616 + (p10 + p01) * 4294967296 + p00 := by
  have m : ∀ {x y : Nat}, x < 4294967296 → y < 4294967296 → x * y ≤ 18446744065119617025 := by
    intro x y hx hy
    exact Nat.le_trans (Nat.mul_le_mul (show x ≤ 4294967295 by omega) (show y ≤ 4294967295 by omega)) (by decide)
  refine ⟨_, _, _, _, rfl, rfl, rfl, rfl, m ha1 hb1, m ha1 hb0, m ha0 hb1, m ha0 hb0, ?_⟩
  have e : (18446744073709551616 : Nat) = 4294967296 * 4294967296 := by decide
  rw [e]
  generalize (4294967296 : Nat) = C
  rw [Nat.add_mul, Nat.mul_add, Nat.mul_add, Nat.add_mul]
  have t1 : a1 * C * (b1 * C) = a1 * b1 * (C * C) := by ac_rfl
  have t2 : a1 * C * b0 = a1 * b0 * C := by ac_rfl
  have t3 : a0 * (b1 * C) = a0 * b1 * C := by ac_rfl
  rw [t1, t2, t3]
  omega
theorem prod_lin {p11 p10 p01 p00 L1 L0 M1 M0 O1 O0 : Nat} (h1 : 4294967296 * L1 + L0 = p00) (h2 : 4294967296 * M1 + M0 = p10 + L1) (h3 : 4294967296 * O1 + O0 = p01 + M0) : (p11 + M1 + O1) * 18446744073709551616 + (O0 * 4294967296 + L0) = p11 * 18446744073709551616 + (p10 + p01) * 4294967296 + p00 := by
  omega
theorem half_lt {M : Nat} (h : M < 18446744073709551616) : M / 4294967296 ≤ 4294967295 := by omega
theorem S_prod (a b : Int64) : V2 (g_S_takeProduct a b).1 (g_S_takeProduct a b).2 = uN a * uN b := by
  have la := uN_lt a
  have lb := uN_lt b
  have r : ∀ x : Int64, uN (uR x 32) = uN x / 4294967296 := fun x => by
    have := uN_uR x (d := 32) (by decide)
    rw [p32] at this
    exact this
  have sl : ∀ x : Int64, uN (sL x 32) = (uN x % 4294967296) * 2 ^ 32 := fun x => by
    have e : uN (sL x 32) = uN x * 2 ^ 32 % 2 ^ 64 := uN_sL x (d := 32) (by decide)
    have e2 : (2 : Nat) ^ 64 = 4294967296 * 2 ^ 32 := by decide
    rw [e, e2, Nat.mul_mod_mul_right]
  obtain ⟨p11, p10, p01, p00, e11, e10, e01, e00, l11, l10, l01, l00, ep⟩ := prod_nat (a1 := uN a / 4294967296) (a0 := uN a % 4294967296) (b1 := uN b / 4294967296) (b0 := uN b % 4294967296) (by omega) (Nat.mod_lt _ (by decide)) (by omega) (Nat.mod_lt _ (by decide))
  have ea : uN a / 4294967296 * 4294967296 + uN a % 4294967296 = uN a := Nat.div_add_mod' _ _
  have eb : uN b / 4294967296 * 4294967296 + uN b % 4294967296 = uN b := Nat.div_add_mod' _ _
  rw [ea, eb] at ep
  clear ea eb la lb
  rw [ep]
  unfold g_S_takeProduct
  dsimp only
  have w00 : uN ((a &&& 4294967295) * (b &&& 4294967295)) = p00 := by
    rw [uN_mul, uN_lo, uN_lo, e00, Nat.mod_eq_of_lt (by omega)]
  have w10 : uN ((uR a 32) * (b &&& 4294967295)) = p10 := by
    rw [uN_mul, r, uN_lo, e10, Nat.mod_eq_of_lt (by omega)]
  have w01 : uN ((a &&& 4294967295) * (uR b 32)) = p01 := by
    rw [uN_mul, r, uN_lo, e01, Nat.mod_eq_of_lt (by omega)]
  have w11 : uN ((uR a 32) * (uR b 32)) = p11 := by
    rw [uN_mul, r, r, e11, Nat.mod_eq_of_lt (by omega)]
  generalize (a &&& 4294967295) * (b &&& 4294967295) = x00 at w00 ⊢
  generalize (uR a 32) * (b &&& 4294967295) = x10 at w10 ⊢
  generalize (a &&& 4294967295) * (uR b 32) = x01 at w01 ⊢
  generalize (uR a 32) * (uR b 32) = x11 at w11 ⊢
  have d00 := Nat.div_add_mod p00 4294967296
  have k00 := half_lt (M := p00) (by omega)
  have m00 : p00 % 4294967296 < 4294967296 := Nat.mod_lt _ (by decide)
  have wM : uN (x10 + uR x00 32) = p10 + p00 / 4294967296 := by
    rw [uN_add, r, w10, w00, Nat.mod_eq_of_lt (by omega)]
  generalize x10 + uR x00 32 = xM at wM ⊢
  have dM := Nat.div_add_mod (p10 + p00 / 4294967296) 4294967296
  have kM := half_lt (M := p10 + p00 / 4294967296) (by omega)
  have mM : (p10 + p00 / 4294967296) % 4294967296 < 4294967296 := Nat.mod_lt _ (by decide)
  have wO : uN (x01 + (xM &&& 4294967295)) = p01 + (p10 + p00 / 4294967296) % 4294967296 := by
    rw [uN_add, uN_lo, w01, wM, Nat.mod_eq_of_lt (by omega)]
  generalize x01 + (xM &&& 4294967295) = xO at wO ⊢
  have dO := Nat.div_add_mod (p01 + (p10 + p00 / 4294967296) % 4294967296) 4294967296
  have kO := half_lt (M := p01 + (p10 + p00 / 4294967296) % 4294967296) (by omega)
  have wH : uN ((x11 + uR xM 32) + uR xO 32) = p11 + (p10 + p00 / 4294967296) / 4294967296 + (p01 + (p10 + p00 / 4294967296) % 4294967296) / 4294967296 := by
    rw [uN_add, uN_add, r, r, w11, wM, wO, Nat.mod_eq_of_lt (a := p11 + (p10 + p00 / 4294967296) / 4294967296) (by omega), Nat.mod_eq_of_lt (by omega)]
  have wL : uN ((sL xO 32) ||| (x00 &&& 4294967295)) = (p01 + (p10 + p00 / 4294967296) % 4294967296) % 4294967296 * 4294967296 + p00 % 4294967296 := by
    rw [uN_orN, sl, uN_lo, w00, wO, or_add (show p00 % 4294967296 < 2 ^ 32 from m00), p32]
  rw [V2_eq, wH, wL]
  exact prod_lin d00 dM dO
