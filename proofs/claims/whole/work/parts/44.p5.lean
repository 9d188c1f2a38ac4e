/-! Pure rows, 5: the control's ways and digits; the reference's times. -/
theorem nI_div {a b : Nat} (ha : a < 2 ^ 31) (hb : b < 2 ^ 31) (h0 : 0 < b) : nI a / nI b = nI (a / b) := by
  apply Int32.toInt_inj.mp
  have l : a / b ≤ a := Nat.div_le_self a b
  rw [Int32.toInt_div, nI_toInt ha, nI_toInt hb, nI_toInt (by omega)]
  rw [← Int.ofNat_tdiv]
  generalize a / b = c at l ⊢
  exact Int.bmod_eq_of_le (by omega) (by omega)
theorem nI_mul (a b : Nat) : nI a * nI b = nI (a * b) := (Int32.ofNat_mul a b).symm
theorem nI_sub {a b : Nat} (ha : a < 2 ^ 31) (h : b ≤ a) : nI a - nI b = nI (a - b) := by
  apply Int32.toInt_inj.mp
  have e1 := nI_toInt ha
  have e2 := nI_toInt (n := b) (by omega)
  rw [i32_sub (by omega) (by omega), e1, e2, nI_toInt (by omega)]
  omega
theorem nI_word {w : Int32} (h0 : 0 ≤ w.toInt) : ∃ n : Nat, w = nI n ∧ w.toInt = n ∧ n < 2 ^ 31 := by
  obtain ⟨n, hn, e⟩ := nI_of (x := w) (by rw [Int32.lt_iff_toInt_lt]; have : (0 : Int32).toInt = 0 := rfl; omega)
  exact ⟨n, e, by rw [e, nI_toInt hn], hn⟩
theorem rem4 {n c : Nat} (hn : n < 2 ^ 31) (hc : c < 2 ^ 31) (h0 : 0 < c) : (nI n / nI c) - (nI n / nI c) / 4 * 4 = nI (n / c % 4) := by
  have l : n / c ≤ n := Nat.div_le_self n c
  have e4 : (4 : Int32) = nI 4 := rfl
  rw [e4, nI_div hn hc h0, nI_div (by omega) (by decide) (by decide), nI_mul, nI_sub (by omega) (by omega)]
  congr 1
  omega
theorem sra_and3 {n : Nat} (hn : n < 2 ^ 31) (y : Int32) {s : Nat} (hs : (y.toBitVec.smod 32).toNat = s) : ((nI n) >>> y) &&& 3 = nI (n / 2 ^ s % 4) := by
  apply Int32.toBitVec_inj.mp
  apply BitVec.eq_of_toNat_eq
  have hb : (nI n).toBitVec.toNat = n := by
    show (BitVec.ofNat 32 n).toNat = n
    rw [BitVec.toNat_ofNat]
    exact Nat.mod_eq_of_lt (by omega)
  have hm : (nI n).toBitVec.msb = false := by
    rw [BitVec.msb_eq_false_iff_two_mul_lt, hb]
    omega
  have l1 : ((nI n) >>> y).toBitVec = (nI n).toBitVec >>> s := by
    show (nI n).toBitVec.sshiftRight (y.toBitVec.smod 32).toNat = _
    rw [hs, BitVec.sshiftRight_eq_of_msb_false hm]
  have l2 : (((nI n) >>> y) &&& 3).toBitVec.toNat = ((nI n) >>> y).toBitVec.toNat &&& 3 := by
    show (((nI n) >>> y).toBitVec &&& 3#32).toNat = _
    rw [BitVec.toNat_and]
    rfl
  have l3 : (nI (n / 2 ^ s % 4)).toBitVec.toNat = n / 2 ^ s % 4 := by
    show (BitVec.ofNat 32 (n / 2 ^ s % 4)).toNat = _
    rw [BitVec.toNat_ofNat]
    exact Nat.mod_eq_of_lt (by omega)
  rw [l2, l1, l3, BitVec.toNat_ushiftRight, hb, Nat.shiftRight_eq_div_pow]
  exact Nat.and_two_pow_sub_one_eq_mod _ 2
def wayN (wd : Int32) : Nat := wd.toInt.toNat / 1024 % 4
def digN (wd : Int32) : Nat := if wd.toInt.toNat / 256 % 4 = 0 then 24 else if wd.toInt.toNat / 256 % 4 = 2 then 53 else 64
theorem wayN_lt (wd : Int32) : wayN wd < 4 := Nat.mod_lt _ (by decide)
theorem digN_c (wd : Int32) : digN wd = 24 ∨ digN wd = 53 ∨ digN wd = 64 := by
  unfold digN; split
  · exact Or.inl rfl
  · split
    · exact Or.inr (Or.inl rfl)
    · exact Or.inr (Or.inr rfl)
theorem O_way {wd : Int32} (h0 : 0 ≤ wd.toInt) : g_O_rounding wd = nI (wayN wd) := by
  obtain ⟨n, e, t, hn⟩ := nI_word h0
  unfold g_O_rounding wayN
  rw [t, Int.toNat_natCast, e]
  exact sra_and3 hn (10 &&& 31) (s := 10) (by decide)
theorem M_way {wd : Int32} (h0 : 0 ≤ wd.toInt) : (wd / 1024) - (wd / 1024) / 4 * 4 = nI (wayN wd) := by
  obtain ⟨n, e, t, hn⟩ := nI_word h0
  unfold wayN
  rw [t, Int.toNat_natCast, e]
  exact rem4 hn (c := 1024) (by decide) (by decide)
theorem O_dig {wd : Int32} (h0 : 0 ≤ wd.toInt) : g_O_digits wd = nI (digN wd) := by
  obtain ⟨n, e, t, hn⟩ := nI_word h0
  unfold g_O_digits digN
  rw [t, Int.toNat_natCast, e, sra_and3 hn (8 &&& 31) (s := 8) (by decide)]
  have q : n / 2 ^ 8 % 4 < 4 := Nat.mod_lt _ (by decide)
  show _ = nI (if n / 2 ^ 8 % 4 = 0 then 24 else if n / 2 ^ 8 % 4 = 2 then 53 else 64)
  generalize n / 2 ^ 8 % 4 = v at q ⊢
  rcases (show v = 0 ∨ v = 1 ∨ v = 2 ∨ v = 3 by omega) with rfl | rfl | rfl | rfl <;> decide
theorem M_dig {wd : Int32} (h0 : 0 ≤ wd.toInt) : g_M_digits wd = nI (digN wd) := by
  obtain ⟨n, e, t, hn⟩ := nI_word h0
  unfold g_M_digits digN
  have r := rem4 hn (c := 256) (by decide) (by decide)
  rw [t, Int.toNat_natCast, e]
  have r2 : (nI n / 256) - (nI n / 256) / 4 * 4 = nI (n / 256 % 4) := r
  rw [r2]
  have q : n / 256 % 4 < 4 := Nat.mod_lt _ (by decide)
  generalize n / 256 % 4 = v at q ⊢
  rcases (show v = 0 ∨ v = 1 ∨ v = 2 ∨ v = 3 by omega) with rfl | rfl | rfl | rfl <;> decide
/-- a bit of the reference's row, read in the row's number moved up by K -/
theorem M_bit_G {z : Int32} (hz : okz z) (rb : Nat → Bool) (i : Int32) (K k : Nat) (hk : i.toInt + K = k) : g_M_bit z rb i = (bN rb z.toInt.toNat * 2 ^ K).testBit k := by
  rw [M_bit_is hz, ← Nat.shiftLeft_eq, Nat.testBit_shiftLeft]
  by_cases q : 0 ≤ i.toInt
  · have q1 : k ≥ K := by omega
    have q2 : k - K = i.toInt.toNat := by omega
    rw [decide_eq_true q, decide_eq_true q1, q2]
  · have q1 : ¬ k ≥ K := by omega
    rw [decide_eq_false q, decide_eq_false q1, Bool.false_and, Bool.false_and]
theorem M_rest_G {z : Int32} (hz : okz z) (mo : Bool) (rb : Nat → Bool) (i : Int32) (K k : Nat) (hk : i.toInt + K = k) : g_M_rest z mo rb i = (mo || decide (bN rb z.toInt.toNat * 2 ^ K % 2 ^ k ≠ 0)) := by
  rw [M_rest_is hz]
  congr 1
  apply decide_eq_decide.mpr
  by_cases q : 0 ≤ i.toInt
  · have e : k = i.toInt.toNat + K := by omega
    rw [e, Nat.pow_add, Nat.mul_mod_mul_right]
    have hp : 0 < 2 ^ K := Nat.two_pow_pos K
    constructor
    · intro h r
      exact h ((Nat.mul_eq_zero.mp r).resolve_right (by omega))
    · intro h r
      exact h (by rw [r, Nat.zero_mul])
  · have e : i.toInt.toNat = 0 := by omega
    have e2 : K = k + (K - k) := by omega
    rw [e, Nat.pow_zero, Nat.mod_one, e2, Nat.pow_add, ← Nat.mul_assoc, Nat.mul_right_comm, Nat.mul_mod_left]
theorem mod_p1 (Y m : Nat) : Y % 2 ^ (m + 1) = Y % 2 + 2 * (Y / 2 % 2 ^ m) := by
  rw [Nat.pow_succ, Nat.mul_comm, Nat.mod_mul]
theorem M_times_loop {z : Int32} (hz : okz z) (un : Int32) (rb : Nat → Bool) (iq : Int32) (K k : Nat) (hb1 : -200000 ≤ (iq - un).toInt) (hb2 : (iq - un).toInt ≤ 200000) (hk : (iq - un).toInt + K = k + 1) :
    uN (lrun (nx_M_times_14 z un rb iq) 64 (0, 63)).1 = bN rb z.toInt.toNat * 2 ^ K / 2 ^ (k + 1) % 2 ^ 64 := by
  have hr : lrun (nx_M_times_14 z un rb iq) 64 (0, 63) = (iterDn (fun j (r : Int64) => 2 * r + (if (bN rb z.toInt.toNat * 2 ^ K).testBit (k + 1 + j) = true then 1 else 0)) 64 0, nI 0 + (-1)) := by
    refine lrun_dn (nx_M_times_14 z un rb iq) (fun j r => (r, nI j + (-1))) (fun j (r : Int64) => 2 * r + (if (bN rb z.toInt.toNat * 2 ^ K).testBit (k + 1 + j) = true then 1 else 0)) 64 ?_ ?_ 64 0 (Nat.le_refl _) 64 (Nat.le_refl _)
    · intro j r hj
      have tj : (nI j).toInt = j := nI_toInt (by omega)
      have hbit : g_M_bit z rb ((iq - un) + nI j) = (bN rb z.toInt.toNat * 2 ^ K).testBit (k + 1 + j) := by
        refine M_bit_G hz rb _ K (k + 1 + j) ?_
        rw [i32_add (by omega) (by omega), tj]
        omega
      unfold nx_M_times_14
      dsimp only
      rw [pk_m1, if_neg (nI_pos (by omega)), hbit]
    · intro r
      unfold nx_M_times_14
      dsimp only
      rw [if_pos (by decide)]
  rw [hr]
  show uN (iterDn _ 64 0) = _
  generalize bN rb z.toInt.toNat * 2 ^ K = G
  have inv := iterDn_inv (fun j (r : Int64) => 2 * r + (if G.testBit (k + 1 + j) = true then 1 else 0)) (fun j (r : Int64) => j ≤ 64 → uN r = G / 2 ^ (k + 1 + j) % 2 ^ (64 - j)) 64 ?_ 64 0 (Nat.le_refl _) ?_
  · have := inv (by decide)
    exact this
  · intro j r hj ih _
    have ih := ih (by omega)
    have u2 : uN 2 = 2 := rfl
    have ub : uN (if G.testBit (k + 1 + j) = true then 1 else 0) = G / 2 ^ (k + 1 + j) % 2 := by
      by_cases q : G.testBit (k + 1 + j) = true
      · rw [if_pos q, (tb_is _ _).mp q]; rfl
      · rw [if_neg q]
        have : ¬ G / 2 ^ (k + 1 + j) % 2 = 1 := fun x => q ((tb_is _ _).mpr x)
        show 0 = _
        omega
    have e1 : G / 2 ^ (k + 1 + (j + 1)) = G / 2 ^ (k + 1 + j) / 2 := by
      rw [Nat.div_div_eq_div_mul, ← Nat.pow_succ]; rfl
    have e2 : 64 - j = (64 - (j + 1)) + 1 := by omega
    have l1 : G / 2 ^ (k + 1 + j) / 2 % 2 ^ (64 - (j + 1)) < 2 ^ (64 - (j + 1)) := Nat.mod_lt _ (Nat.two_pow_pos _)
    have l2 : 2 ^ (64 - (j + 1)) ≤ 2 ^ 63 := Nat.pow_le_pow_right (by decide) (by omega)
    show uN (2 * r + (if G.testBit (k + 1 + j) = true then 1 else 0)) = _
    rw [uN_add, uN_mul, u2, ub, ih, e1, e2, mod_p1]
    have l3 : G / 2 ^ (k + 1 + j) % 2 < 2 := Nat.mod_lt _ (by decide)
    generalize G / 2 ^ (k + 1 + j) / 2 % 2 ^ (64 - (j + 1)) = A at l1 ⊢
    generalize 2 ^ (64 - (j + 1)) = P at l1 l2
    generalize G / 2 ^ (k + 1 + j) % 2 = B at l3 ⊢
    rw [p63] at l2
    omega
  · intro _
    show 0 = G / 2 ^ (k + 1 + 64) % 2 ^ 0
    rw [Nat.pow_zero, Nat.mod_one]
/-- times: whole part, rounded, of 64 bits; and whether something is lost -/
theorem M_times_is {wd : Int32} (h0 : 0 ≤ wd.toInt) {z : Int32} (hz : okz z) (un : Int32) (mo : Bool) (rb : Nat → Bool) (iq : Int32) (bs : Bool) (K k : Nat) (hb1 : -200000 ≤ (iq - un).toInt) (hb2 : (iq - un).toInt ≤ 200000) (hk : (iq - un).toInt + K = k + 1) {F : Nat} {hb rt : Bool} (hT : td (bN rb z.toInt.toNat * 2 ^ K) k mo = (F, hb, rt)) (hF : F < 2 ^ 64) :
    ∃ jw, g_M_times wd z un mo rb iq bs = (jw, (hb || rt)) ∧ uN jw = (F + upN (rnd (wayN wd) bs (decide (F % 2 = 1)) hb rt)) % 2 ^ 64 := by
  have hw := wayN_lt wd
  have e1 : (1 : Int32).toInt = 1 := rfl
  have hm : ((iq - un) - 1).toInt = (iq - un).toInt - 1 := by rw [i32_sub (by omega) (by omega), e1]
  have b1 : g_M_bit z rb ((iq - un) - 1) = hb := by
    rw [M_bit_G hz rb _ K k (by omega), Nat.testBit_eq_decide_div_mod_eq]
    exact congrArg (fun t => t.2.1) hT
  have b2 : g_M_rest z mo rb ((iq - un) - 1) = rt := by
    rw [M_rest_G hz mo rb _ K k (by omega)]
    exact congrArg (fun t => t.2.2) hT
  have b3 : g_M_bit z rb (iq - un) = decide (F % 2 = 1) := by
    rw [M_bit_G hz rb _ K (k + 1) (by omega), Nat.testBit_eq_decide_div_mod_eq]
    have : bN rb z.toInt.toNat * 2 ^ K / 2 ^ (k + 1) = F := congrArg (fun t => t.1) hT
    rw [this]
  have hlo : uN (lrun (nx_M_times_14 z un rb iq) 64 (0, 63)).1 = F := by
    rw [M_times_loop hz un rb iq K k hb1 hb2 hk]
    have : bN rb z.toInt.toNat * 2 ^ K / 2 ^ (k + 1) = F := congrArg (fun t => t.1) hT
    rw [this]
    exact Nat.mod_eq_of_lt hF
  unfold g_M_times
  dsimp only
  rw [b1, b2, b3, M_way h0]
  generalize (lrun (nx_M_times_14 z un rb iq) 64 (0, 63)).1 = v at hlo ⊢
  have ly : (if hb = true then true else if rt = true then true else false) = (hb || rt) := by cases hb <;> cases rt <;> rfl
  rw [ly]
  have up : (if nI (wayN wd) = 0 then if hb = true then if rt = true then true else if (decide (F % 2 = 1)) = true then true else false else false else if nI (wayN wd) = 1 then if bs = true then if (hb || rt) = true then true else false else false else if nI (wayN wd) = 2 then if bs = true then false else if (hb || rt) = true then true else false else false) = rnd (wayN wd) bs (decide (F % 2 = 1)) hb rt := by
    generalize decide (F % 2 = 1) = o
    generalize wayN wd = w at hw
    rcases (show w = 0 ∨ w = 1 ∨ w = 2 ∨ w = 3 by omega) with rfl | rfl | rfl | rfl <;> cases o <;> cases hb <;> cases rt <;> cases bs <;> decide
  rw [up]
  generalize rnd (wayN wd) bs (decide (F % 2 = 1)) hb rt = u
  cases u
  · refine ⟨v, rfl, ?_⟩
    show uN v = (F + 0) % 2 ^ 64
    rw [hlo, Nat.add_zero, Nat.mod_eq_of_lt hF]
  · refine ⟨v + 1, rfl, ?_⟩
    rw [uN_add, hlo]
    rfl
