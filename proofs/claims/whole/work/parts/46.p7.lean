/-! Pure rows, 7: make. -/
theorem pow_uniq {G a b : Nat} (a1 : 2 ^ a ≤ G) (a2 : G < 2 ^ (a + 1)) (b1 : 2 ^ b ≤ G) (b2 : G < 2 ^ (b + 1)) : a = b := by
  rcases Nat.lt_trichotomy a b with q | q | q
  · have : 2 ^ (a + 1) ≤ 2 ^ b := Nat.pow_le_pow_right (by decide) q
    omega
  · exact q
  · have : 2 ^ (b + 1) ≤ 2 ^ a := Nat.pow_le_pow_right (by decide) q
    omega
/-- the class's size and the reference's row say the same of the exact number -/
def AG (hi lo : Int64) (ex z un : Int32) (mo : Bool) (rb : Nat → Bool) : Prop :=
  okz z ∧ 2 ^ 63 ≤ uN hi ∧ (-35000 ≤ ex.toInt ∧ ex.toInt ≤ 33000) ∧ (-60000 ≤ un.toInt ∧ un.toInt ≤ 60000) ∧ ∃ K k : Nat, ex.toInt - un.toInt + K = k + 1 ∧ td (bN rb z.toInt.toNat * 2 ^ K) k mo = sTr hi lo 0
section Mk
variable {hi lo : Int64} {ex z un : Int32} {mo : Bool} {rb : Nat → Bool}
theorem AG_high (h : AG hi lo ex z un mo rb) : un + g_M_highest z rb = ex + 63 := by
  obtain ⟨hz, hh, ⟨e1, e2⟩, ⟨u1, u2⟩, K, k, hK, hT⟩ := h
  have t63 : (63 : Int32).toInt = 63 := rfl
  have hh2 := uN_lt' hi
  have hm := M_highest_is hz rb
  have hF : bN rb z.toInt.toNat * 2 ^ K / 2 ^ (k + 1) = uN hi := congrArg (fun t => t.1) hT
  have hrg := hiB_rng rb z.toInt.toNat
  have g1 : 2 ^ (k + 64) ≤ bN rb z.toInt.toNat * 2 ^ K := by
    have : 2 ^ 63 * 2 ^ (k + 1) ≤ bN rb z.toInt.toNat * 2 ^ K := by
      rw [← Nat.le_div_iff_mul_le (Nat.two_pow_pos _), hF]; exact hh
    have e : 2 ^ (k + 64) = 2 ^ 63 * 2 ^ (k + 1) := by rw [← Nat.pow_add]; exact pow_eq (by omega)
    rw [e]; exact this
  have g2 : bN rb z.toInt.toNat * 2 ^ K < 2 ^ (k + 64 + 1) := by
    have : bN rb z.toInt.toNat * 2 ^ K < 2 ^ 64 * 2 ^ (k + 1) := by
      rw [← Nat.div_lt_iff_lt_mul (Nat.two_pow_pos _), hF]; exact hh2
    have e : 2 ^ (k + 64 + 1) = 2 ^ 64 * 2 ^ (k + 1) := by rw [← Nat.pow_add]; exact pow_eq (by omega)
    rw [e]; exact this
  have nz : bN rb z.toInt.toNat ≠ 0 := by
    intro q
    rw [q, Nat.zero_mul] at g1
    have := Nat.two_pow_pos (k + 64)
    omega
  have nn : hiB rb z.toInt.toNat ≠ -1 := fun q => nz (hiB_none.mp q)
  obtain ⟨t, ht⟩ : ∃ t : Nat, hiB rb z.toInt.toNat = t := ⟨(hiB rb z.toInt.toNat).toNat, by omega⟩
  have hs := hiB_some ht
  have s1 : 2 ^ (t + K) ≤ bN rb z.toInt.toNat * 2 ^ K := by
    rw [Nat.pow_add]; exact Nat.mul_le_mul_right _ hs.1
  have s2 : bN rb z.toInt.toNat * 2 ^ K < 2 ^ (t + K + 1) := by
    have e : 2 ^ (t + K + 1) = 2 ^ (t + 1) * 2 ^ K := by rw [← Nat.pow_add]; exact pow_eq (by omega)
    rw [e]; exact Nat.mul_lt_mul_of_pos_right hs.2 (Nat.two_pow_pos K)
  have u := pow_uniq s1 s2 g1 g2
  obtain ⟨z1, z2⟩ := hz
  apply Int32.toInt_inj.mp
  rw [i32_add (by omega) (by omega), i32_add (by omega) (by omega), hm, ht, t63]
  omega
theorem both_round (h : AG hi lo ex z un mo rb) {wd : Int32} (h0 : 0 ≤ wd.toInt) (bs : Bool) {iq : Int32} {d : Nat} (hd : d ≤ 40000) (hq : iq.toInt = ex.toInt + d) :
    ∃ (jw hi' : Int64) (ex' : Int32) (ly : Bool) (W : Nat), g_M_times wd z un mo rb iq bs = (jw, ly) ∧ g_S_round hi lo ex (nI d) (nI (wayN wd)) bs = (ly, hi', 0, ex') ∧ uN jw = W % 2 ^ 64 ∧ RS d W hi' ex ex' := by
  obtain ⟨hz, hh, ⟨e1, e2⟩, ⟨u1, u2⟩, K, k, hK, hT⟩ := h
  have hs : (iq - un).toInt = iq.toInt - un.toInt := i32_sub (by omega) (by omega)
  have hup : td (bN rb z.toInt.toNat * 2 ^ K) (k + d) mo = sTr hi lo d := by
    rw [td_up, hT]; rfl
  have hF : (sTr hi lo d).1 < 2 ^ 64 := by
    rw [sTr_1]; exact Nat.lt_of_le_of_lt (Nat.div_le_self _ _) (uN_lt' hi)
  obtain ⟨jw, t1, t2⟩ := M_times_is (wd := wd) h0 hz un mo rb iq bs K (k + d) (by omega) (by omega) (by omega) (F := (sTr hi lo d).1) (hb := (sTr hi lo d).2.1) (rt := (sTr hi lo d).2.2) hup hF
  obtain ⟨hi', ex', r1, r2⟩ := S_round_is hi lo ex hd hh (wayN_lt wd) bs
  exact ⟨jw, hi', ex', _, _, t1, r1, t2, r2⟩
theorem uN_aR {x : Int64} (hx : uN x < 2 ^ 63) {n : Nat} (hn : n < 64) : uN (aR x (nI n)) = uN x / 2 ^ n := by
  have hm : x.toBitVec.msb = false := by
    rw [BitVec.msb_eq_false_iff_two_mul_lt]
    have e : x.toBitVec.toNat = uN x := rfl
    rw [e, p63] at *
    omega
  have e1 : (aR x (nI n)).toBitVec = x.toBitVec >>> n := by rw [aR_tb x hn, BitVec.sshiftRight_eq_of_msb_false hm]
  show (aR x (nI n)).toBitVec.toNat = _
  rw [e1, BitVec.toNat_ushiftRight, Nat.shiftRight_eq_div_pow]
  rfl
/-- with the digits that the control keeps: whether one more came -/
theorem longer_is {n W : Nat} {jw hi' : Int64} {ex' : Int32} (hn : n = 24 ∨ n = 53 ∨ n = 64) (hj : uN jw = W % 2 ^ 64) (hR : RS (64 - n) W hi' ex ex') (e1 : -35000 ≤ ex.toInt) (e2 : ex.toInt ≤ 33000) :
    (if nI n = 64 then if jw = 0 then true else false else false) = decide (W = 2 ^ 64) ∧
    (if (decide (W = 2 ^ 64)) = true then true else if (64 : Int32) ≤ nI n then false else if (aR jw (nI n)) = 0 then false else true) = decide (ex'.toInt = ex.toInt + 1) ∧ (ex'.toInt = ex.toInt ∨ ex'.toInt = ex.toInt + 1) := by
  have i1 : (ex + 1).toInt = ex.toInt + 1 := i32_add1 (by omega)
  have key : (64 - n ≤ 63 ∧ 2 ^ 63 ≤ W * 2 ^ (64 - n) ∧ W * 2 ^ (64 - n) < 2 ^ 64 ∧ ex'.toInt = ex.toInt) ∨ (W * 2 ^ (64 - n) = 2 ^ 64 ∧ ex'.toInt = ex.toInt + 1) := by
    rcases hR with ⟨a, b, c, u, e⟩ | ⟨a, b, u, e⟩ | ⟨a, b, u, e⟩ | ⟨a, b, u, e⟩
    · exact Or.inl ⟨a, b, c, by rw [e]⟩
    · exact Or.inr ⟨b, by rw [e, i1]⟩
    · omega
    · omega
  rcases hn with rfl | rfl | rfl
  · have c24 : ¬ (nI 24 : Int32) = 64 := by decide
    have c24' : ¬ (64 : Int32) ≤ nI 24 := by decide
    have p : (2 : Nat) ^ (64 - 24) = 1099511627776 := by decide
    rw [p, p64, p63] at key
    have wl : W ≤ 16777216 := by omega
    have wn : ¬ W = 2 ^ 64 := by rw [p64]; omega
    have ej : uN jw = W := by rw [hj, p64]; omega
    have ar : uN (aR jw (nI 24)) = W / 2 ^ 24 := by rw [uN_aR (by rw [ej, p63]; omega) (by decide), ej]
    have p24 : (2 : Nat) ^ 24 = 16777216 := by decide
    rw [p24] at ar
    rw [if_neg c24, decide_eq_false wn, if_neg (by decide), if_neg c24']
    refine ⟨rfl, ?_, by omega⟩
    by_cases q : ex'.toInt = ex.toInt + 1
    · rw [decide_eq_true q, if_neg (by rw [uN_z, ar]; omega)]
    · rw [decide_eq_false q, if_pos (by rw [uN_z, ar]; omega)]
  · have c24 : ¬ (nI 53 : Int32) = 64 := by decide
    have c24' : ¬ (64 : Int32) ≤ nI 53 := by decide
    have p : (2 : Nat) ^ (64 - 53) = 2048 := by decide
    rw [p, p64, p63] at key
    have wl : W ≤ 9007199254740992 := by omega
    have wn : ¬ W = 2 ^ 64 := by rw [p64]; omega
    have ej : uN jw = W := by rw [hj, p64]; omega
    have ar : uN (aR jw (nI 53)) = W / 2 ^ 53 := by rw [uN_aR (by rw [ej, p63]; omega) (by decide), ej]
    have p24 : (2 : Nat) ^ 53 = 9007199254740992 := by decide
    rw [p24] at ar
    rw [if_neg c24, decide_eq_false wn, if_neg (by decide), if_neg c24']
    refine ⟨rfl, ?_, by omega⟩
    by_cases q : ex'.toInt = ex.toInt + 1
    · rw [decide_eq_true q, if_neg (by rw [uN_z, ar]; omega)]
    · rw [decide_eq_false q, if_pos (by rw [uN_z, ar]; omega)]
  · have c24 : (nI 64 : Int32) = 64 := by decide
    have c24' : (64 : Int32) ≤ nI 64 := by decide
    have p : (2 : Nat) ^ (64 - 64) = 1 := by decide
    rw [p, p64, p63, Nat.mul_one] at key
    rw [if_pos c24, if_pos c24']
    by_cases q : W = 2 ^ 64
    · rw [decide_eq_true q, if_pos (by rw [uN_z, hj, q]), if_pos rfl]
      rw [p64] at q
      exact ⟨rfl, (decide_eq_true (by omega)).symm, by omega⟩
    · rw [decide_eq_false q]
      rw [p64] at q
      have ej : uN jw = W := by rw [hj, p64]; omega
      rw [if_neg (by rw [uN_z, ej]; omega), if_neg (by decide)]
      exact ⟨rfl, (decide_eq_false (by omega)).symm, by omega⟩
end Mk
