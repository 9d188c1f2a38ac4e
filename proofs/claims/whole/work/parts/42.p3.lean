/-! Pure rows, 3: shifts; the class's rounding. -/
theorem uh_tab : ∀ d, d < 64 → ((nI d).toInt64.toUInt64 &&& Int64.toUInt64 63).toNat % 64 = d := by decide +kernel
theorem uN_sL (x : Int64) {d : Nat} (hd : d < 64) : uN (sL x (nI d)) = (uN x * 2 ^ d) % 2 ^ 64 := by
  show (x.toBitVec <<< (((nI d).toInt64 &&& 63).toBitVec.smod 64).toNat).toNat = _
  rw [sh_tab d hd, BitVec.toNat_shiftLeft, Nat.shiftLeft_eq]
  rfl
theorem uN_uR (x : Int64) {d : Nat} (hd : d < 64) : uN (uR x (nI d)) = uN x / 2 ^ d := by
  unfold uR
  rw [uN_shr, uh_tab d hd]
theorem uN_z {x : Int64} : x = 0 ↔ uN x = 0 := ⟨fun h => by rw [h]; rfl, fun h => uN_inj (h.trans rfl)⟩
theorem uN_and1 (x : Int64) : uN (x &&& 1) = uN x % 2 := by
  show (x.toUInt64 &&& Int64.toUInt64 1).toNat = _
  rw [UInt64.toNat_and]
  exact Nat.and_two_pow_sub_one_eq_mod _ 1
theorem and1_z (x : Int64) : (x &&& 1 = 0) ↔ ¬ uN x % 2 = 1 := by
  rw [uN_z, uN_and1]; omega
theorem and1_o (x : Int64) : (x &&& 1 = 1) ↔ uN x % 2 = 1 := by
  rw [← uN_and1]
  exact ⟨fun h => by rw [h]; rfl, fun h => uN_inj (h.trans rfl)⟩
theorem aR_o (x : Int64) {d : Nat} (hd : d < 64) : ((aR x (nI d)) &&& 1 = 1) ↔ (uN x).testBit d = true := by
  have h := aR_bit x hd
  have e : x.toBitVec.getLsbD d = (uN x).testBit d := rfl
  rw [e] at h
  have c : ((aR x (nI d)) &&& 1 = 1) ↔ ¬ ((aR x (nI d)) &&& 1 = 0) := by rw [and1_o, and1_z]; omega
  rw [c, h]
  cases (uN x).testBit d <;> simp
theorem tb_is (x d : Nat) : (x.testBit d = true) ↔ x / 2 ^ d % 2 = 1 := by
  rw [Nat.testBit_eq_decide_div_mod_eq]
  exact decide_eq_true_iff
theorem p64 : (2 : Nat) ^ 64 = 18446744073709551616 := by decide
theorem p63 : (2 : Nat) ^ 63 = 9223372036854775808 := by decide
theorem uN_lt' (x : Int64) : uN x < 2 ^ 64 := uN_lt x
theorem pow_split {a b : Nat} (h : b ≤ a) : 2 ^ a = 2 ^ (a - b) * 2 ^ b := by rw [← Nat.pow_add]; congr 1; omega
theorem uN_mask (x : Int64) {e : Nat} (he : e < 64) : uN (x &&& ((sL (sL 1 (nI e)) 1) - 1)) = uN x % 2 ^ (e + 1) := by
  have a1 : uN (sL 1 (nI e)) = 2 ^ e := by
    rw [uN_sL 1 he]
    have u1 : uN 1 = 1 := rfl
    rw [u1, Nat.one_mul]
    exact Nat.mod_eq_of_lt (Nat.pow_lt_pow_right (by decide) he)
  have a2 : uN (sL (sL 1 (nI e)) 1) = 2 ^ (e + 1) % 2 ^ 64 := by
    have q := uN_sL (sL 1 (nI e)) (d := 1) (by decide)
    rw [a1, ← Nat.pow_succ] at q
    exact q
  have hs : ∀ y z : Int64, uN (y - z) = (uN y + (2 ^ 64 - uN z)) % 2 ^ 64 := by
    intro y z
    show (y.toUInt64 - z.toUInt64).toNat = _
    rw [UInt64.toNat_sub]
    have := z.toUInt64.toNat_lt
    show (2 ^ 64 - z.toUInt64.toNat + y.toUInt64.toNat) % 2 ^ 64 = _
    rw [Nat.add_comm]
    rfl
  have a3 : uN ((sL (sL 1 (nI e)) 1) - 1) = 2 ^ (e + 1) - 1 := by
    rw [hs, a2]
    have u1 : uN 1 = 1 := rfl
    rw [u1]
    by_cases q : e = 63
    · subst q; decide
    · have l : 2 ^ (e + 1) < 2 ^ 64 := Nat.pow_lt_pow_right (by decide) (by omega)
      have l0 : 0 < 2 ^ (e + 1) := Nat.two_pow_pos _
      rw [Nat.mod_eq_of_lt l]
      generalize 2 ^ (e + 1) = P at l l0
      rw [p64] at l ⊢
      omega
  have a4 : uN (x &&& ((sL (sL 1 (nI e)) 1) - 1)) = uN x &&& uN ((sL (sL 1 (nI e)) 1) - 1) := UInt64.toNat_and _ _
  rw [a4, a3, Nat.and_two_pow_sub_one_eq_mod]
theorem uN_one {e : Nat} (he : e < 64) : uN (sL 1 (nI e)) = 2 ^ e := by
  rw [uN_sL 1 he]
  have u1 : uN 1 = 1 := rfl
  rw [u1, Nat.one_mul]
  exact Nat.mod_eq_of_lt (Nat.pow_lt_pow_right (by decide) he)
/-- the class's number at a cut d digits above the last of 'high' -/
def sTr (hi lo : Int64) (d : Nat) : Nat × Bool × Bool := tq (uN hi) (decide (2 ^ 63 ≤ uN lo)) (decide (uN lo % 2 ^ 63 ≠ 0)) d
theorem sTr_1 (hi lo : Int64) (d : Nat) : (sTr hi lo d).1 = uN hi / 2 ^ d := by
  cases d with
  | zero => show uN hi = uN hi / 2 ^ 0; rw [Nat.pow_zero, Nat.div_one]
  | succ d => rfl
theorem i64n {d : Nat} (hd : d ≤ 40000) : (64 : Int32) ≤ nI d ↔ 64 ≤ d := nI_leI (a := 64) (by decide) (by omega)
theorem i64n' {d : Nat} (hd : d ≤ 40000) : nI d < (64 : Int32) ↔ d < 64 := nI_ltI (b := 64) (by omega) (by decide)
theorem i64m {d : Nat} (hd : d ≤ 40000) : nI d ≤ (64 : Int32) ↔ d ≤ 64 := nI_leI (b := 64) (by omega) (by decide)
theorem i0n {d : Nat} (hd : d ≤ 40000) : (0 : Int32) < nI d ↔ 0 < d := nI_ltI (a := 0) (by decide) (by omega)
theorem cmp_half (hi lo : Int64) {d : Nat} (hd : d ≤ 40000) :
    ((0 < g_S_compareDroppedWithHalf hi lo (nI d)) ↔ ((sTr hi lo d).2.1 = true ∧ (sTr hi lo d).2.2 = true)) ∧ ((g_S_compareDroppedWithHalf hi lo (nI d) = 0) ↔ ((sTr hi lo d).2.1 = true ∧ ¬ (sTr hi lo d).2.2 = true)) := by
  have hl := uN_lt' lo
  have hh := uN_lt' hi
  unfold g_S_compareDroppedWithHalf
  cases d with
  | zero =>
    have c1 : nI 0 ≤ (64 : Int32) := (i64m hd).mpr (by decide)
    have c2 : ¬ (0 : Int32) < nI 0 := fun q => absurd ((i0n hd).mp q) (by decide)
    have e : uN (-9223372036854775808) = 2 ^ 63 := by decide
    rw [if_pos c1, if_neg c2, cU_gt, cU_eq, e]
    show (2 ^ 63 < uN lo ↔ (decide (2 ^ 63 ≤ uN lo) = true ∧ decide (uN lo % 2 ^ 63 ≠ 0) = true)) ∧ (uN lo = 2 ^ 63 ↔ (decide (2 ^ 63 ≤ uN lo) = true ∧ ¬ decide (uN lo % 2 ^ 63 ≠ 0) = true))
    rw [decide_eq_true_iff, decide_eq_true_iff]
    constructor <;> omega
  | succ e =>
    have ht : (sTr hi lo (e + 1)).2.1 = decide (uN hi / 2 ^ e % 2 = 1) := rfl
    have ht2 : (sTr hi lo (e + 1)).2.2 = (decide (uN lo % 2 ^ 63 ≠ 0) || (decide (2 ^ 63 ≤ uN lo) || decide (uN hi % 2 ^ e ≠ 0))) := rfl
    have ht3 : ((sTr hi lo (e + 1)).2.2 = true) ↔ (uN lo ≠ 0 ∨ uN hi % 2 ^ e ≠ 0) := by
      rw [ht2, Bool.or_eq_true, Bool.or_eq_true, decide_eq_true_iff, decide_eq_true_iff, decide_eq_true_iff]
      omega
    rw [ht3, ht, decide_eq_true_iff]
    by_cases c1 : e + 1 ≤ 64
    · have c2 : (0 : Int32) < nI (e + 1) := (i0n hd).mpr (by omega)
      rw [if_pos ((i64m hd).mpr c1), if_pos c2, nI_pred]
      have he : e < 64 := by omega
      have m1 : uN hi % 2 ^ (e + 1) = uN hi % 2 ^ e + 2 ^ e * (uN hi / 2 ^ e % 2) := by rw [Nat.pow_succ, Nat.mod_mul]
      have m2 : uN hi % 2 ^ e < 2 ^ e := Nat.mod_lt _ (Nat.two_pow_pos e)
      have m3 : uN hi / 2 ^ e % 2 = 0 ∨ uN hi / 2 ^ e % 2 = 1 := by omega
      have lz : lo = 0 ↔ uN lo = 0 := uN_z
      have G := cU_gt (hi &&& ((sL (sL 1 (nI e)) 1) - 1)) (sL 1 (nI e))
      have E := cU_eq (hi &&& ((sL (sL 1 (nI e)) 1) - 1)) (sL 1 (nI e))
      rw [uN_mask hi he, uN_one he] at G E
      rw [uN_mask hi he, uN_one he]
      generalize g_Lg_compareUnsigned (hi &&& ((sL (sL 1 (nI e)) 1) - 1)) (sL 1 (nI e)) = cU at G E ⊢
      generalize uN hi % 2 ^ (e + 1) = X at m1 G E ⊢
      generalize uN hi % 2 ^ e = Y at m1 m2 ⊢
      generalize uN hi / 2 ^ e % 2 = Z at m1 m3 ⊢
      generalize 2 ^ e = P at m1 m2 G E ⊢
      have z01 : X = Y + P * Z := m1
      by_cases x : X = P
      · rw [if_pos x]
        have zz : Z = 1 ∧ Y = 0 := by
          rcases m3 with m3 | m3
          · rw [m3] at z01; omega
          · rw [m3] at z01; omega
        by_cases l0 : lo = 0
        · rw [if_pos l0, G, E]
          have := lz.mp l0
          omega
        · rw [if_neg l0]
          have : ¬ uN lo = 0 := fun q => l0 (lz.mpr q)
          have p1 : (0 : Int32) < 1 := by decide
          have p2 : ¬ (1 : Int32) = 0 := by decide
          simp only [p1, p2, true_iff, false_iff]
          omega
      · rw [if_neg x, G, E]
        rcases m3 with m3 | m3
        · rw [m3] at z01; omega
        · rw [m3] at z01; omega
    · have c3 : ¬ nI (e + 1) ≤ (64 : Int32) := fun q => c1 ((i64m hd).mp q)
      rw [if_neg c3]
      have z : uN hi / 2 ^ e = 0 := Nat.div_eq_of_lt (Nat.lt_of_lt_of_le hh (Nat.pow_le_pow_right (by decide) (by omega)))
      rw [z]
      have p1 : ¬ (0 : Int32) < (-1) := by decide
      have p2 : ¬ (-1 : Int32) = 0 := by decide
      simp only [p1, p2, false_iff]
      omega
def rnd (way : Nat) (sg odd hb rb : Bool) : Bool := if way = 0 then hb && (rb || odd) else if way = 1 then sg && (hb || rb) else if way = 2 then !sg && (hb || rb) else false
theorem away_is {io : Int32} {bo bn hb rb : Bool} {way : Nat} (hw : way < 4) (h1 : (0 < io) ↔ (hb = true ∧ rb = true)) (h2 : (io = 0) ↔ (hb = true ∧ ¬ rb = true)) (hl : (hb || rb) = true) : g_S_isRoundedAway io bo (nI way) bn = rnd way bn bo hb rb := by
  have w0 : (nI 0 : Int32) = 0 := rfl
  unfold g_S_isRoundedAway rnd
  rcases (show way = 0 ∨ way = 1 ∨ way = 2 ∨ way = 3 by omega) with rfl | rfl | rfl | rfl
  · rw [if_pos rfl, if_pos w0]
    by_cases a : 0 < io
    · rw [if_pos a]
      obtain ⟨x, y⟩ := h1.mp a
      rw [x, y]; rfl
    · rw [if_neg a]
      by_cases b : io = 0
      · rw [if_pos b]
        obtain ⟨x, y⟩ := h2.mp b
        cases rb
        · rw [x]; cases bo <;> rfl
        · exact absurd rfl y
      · rw [if_neg b]
        cases hb
        · rfl
        · cases rb
          · exact absurd (h2.mpr ⟨rfl, by decide⟩) b
          · exact absurd (h1.mpr ⟨rfl, rfl⟩) a
  · rw [if_neg (by decide), if_pos (by decide), if_neg (by decide), if_pos rfl, hl, Bool.and_true]
  · rw [if_neg (show ¬ (nI 2 : Int32) = 0 by decide), if_neg (show ¬ (nI 2 : Int32) = 1 by decide), if_pos (show (nI 2 : Int32) = 2 by decide), if_neg (show ¬ (2 : Nat) = 0 by decide), if_neg (show ¬ (2 : Nat) = 1 by decide), if_pos rfl, hl, Bool.and_true]
    cases bn <;> rfl
  · rw [if_neg (by decide), if_neg (by decide), if_neg (by decide), if_neg (by decide), if_neg (by decide), if_neg (by decide)]
