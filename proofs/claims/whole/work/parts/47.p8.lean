/-! Pure rows, 8: the two makes agree. -/
def sOk (s : Int32) : Prop := s = 0 ∨ s = 8 ∨ s = 16 ∨ s = 32 ∨ s = 40 ∨ s = 48
theorem tl_add (tl : Int32) (a b c : Int32) (h : a + b = c) : tl + a + b = tl + c := by rw [Int32.add_assoc, h]
theorem nff : ¬ (false = true) := by decide
theorem ytt : true = true := rfl
theorem pw_is {ex : Int32} (e1 : -100000 ≤ ex.toInt) (e2 : ex.toInt ≤ 100000) : (g_S_power ex).toInt = ex.toInt + 16446 := by
  unfold g_S_power
  exact i32A rfl rfl (by omega) (by omega)
theorem k63_is {ex : Int32} (e1 : -100000 ≤ ex.toInt) (e2 : ex.toInt ≤ 100000) : (ex + 63).toInt = ex.toInt + 63 := i32A rfl rfl (by omega) (by omega)
theorem q_norm {ex : Int32} (e1 : -100000 ≤ ex.toInt) (e2 : ex.toInt ≤ 100000) {n : Nat} (hn : n ≤ 64) : (((ex + 63) + 1) - nI n).toInt = ex.toInt + (64 - n : Nat) := by
  have a : ((ex + 63) + 1).toInt = ex.toInt + 63 + 1 := i32A (k63_is e1 e2) rfl (by omega) (by omega)
  rw [i32S a (nI_toInt (by omega)) (by omega) (by omega)]
  omega
theorem q_small {n : Nat} (hn : n ≤ 64) : ((-16381) - nI n).toInt = -16381 - (n : Int) :=
  i32S (x := -16381) (by decide) (nI_toInt (by omega)) (by omega) (by omega)
theorem ctn_is {ex : Int32} (e1 : -100000 ≤ ex.toInt) (e2 : ex.toInt ≤ 100000) : Hd ((1 ≤ g_S_power ex) ↔ 1 ≤ ex.toInt + 16446) := by
  unfold Hd
  rw [i32_le1, pw_is e1 e2]
theorem cti_is {ex : Int32} (e1 : -100000 ≤ ex.toInt) (e2 : ex.toInt ≤ 100000) : Hd (((-16382 : Int32) ≤ ex + 63) ↔ 1 ≤ ex.toInt + 16446) := by
  unfold Hd
  rw [Int32.le_iff_toInt_le, k63_is e1 e2, show (-16382 : Int32).toInt = -16382 by decide]
  omega
theorem cap_is {ex ex' : Int32} (e1 : -100000 ≤ ex.toInt) (e2 : ex.toInt ≤ 100000) (h : ex'.toInt = ex.toInt ∨ ex'.toInt = ex.toInt + 1) : Hd (((16384 : Int32) ≤ (ex + 63) + b2i (if (decide (ex'.toInt = ex.toInt + 1)) = true then true else false)) ↔ 16384 ≤ ex'.toInt + 63) := by
  unfold Hd
  by_cases q : ex'.toInt = ex.toInt + 1
  · have a : ((ex + 63) + 1).toInt = ex.toInt + 63 + 1 := i32A (k63_is e1 e2) rfl (by omega) (by omega)
    rw [decide_eq_true q, if_pos ytt, Int32.le_iff_toInt_le, show b2i true = 1 from rfl, a, show (16384 : Int32).toInt = 16384 from rfl]
    omega
  · rw [decide_eq_false q, if_neg nff, Int32.le_iff_toInt_le, show b2i false = 0 from rfl, Int32.add_zero, k63_is e1 e2, show (16384 : Int32).toInt = 16384 from rfl]
    omega
theorem cap2_is {ex' : Int32} (e1 : -100000 ≤ ex'.toInt) (e2 : ex'.toInt ≤ 100000) : Hd ((g_S_power ex' ≤ 32766) ↔ ¬ 16384 ≤ ex'.toInt + 63) := by
  unfold Hd
  rw [Int32.le_iff_toInt_le, pw_is e1 e2, show (32766 : Int32).toInt = 32766 from rfl]
  omega
theorem eDs_is {ex : Int32} (e1 : -100000 ≤ ex.toInt) (e2 : ex.toInt ≤ 100000) {n d : Nat} (hn : n ≤ 64) (ts : ex.toInt + 16446 < 1) (ed : (d : Int) = (64 - n : Nat) + (1 - (ex.toInt + 16446))) : nI (64 - n) + ((1 : Int32) - g_S_power ex) = nI d := by
  have x1 : ((1 : Int32) - g_S_power ex).toInt = 1 - (ex.toInt + 16446) := i32S rfl (pw_is e1 e2) (by omega) (by omega)
  apply Int32.toInt_inj.mp
  rw [i32A (nI_toInt (n := 64 - n) (by omega)) x1 (by omega) (by omega), nI_toInt (by omega)]
  omega
theorem V_ne {d V : Nat} {hi' : Int64} {ex ex' : Int32} (R : RS d V hi' ex ex') (d1 : 1 ≤ d) : Hd ((false = true) ↔ V = 2 ^ 64) := by
  unfold Hd
  constructor
  · intro q; exact absurd q nff
  · intro q
    exfalso
    have two : 2 ≤ 2 ^ d := by
      have : 2 ^ 1 ≤ 2 ^ d := Nat.pow_le_pow_right (by decide) d1
      omega
    have big : 2 ^ 64 * 2 ≤ V * 2 ^ d := by rw [q]; exact Nat.mul_le_mul_left _ two
    rcases R with ⟨a, b, c, u, e⟩ | ⟨a, b, u, e⟩ | ⟨a, b, u, e⟩ | ⟨a, b, u, e⟩
    · exact absurd (Nat.lt_of_le_of_lt big c) (by decide)
    · rw [b] at big; exact absurd big (by decide)
    · rw [q] at b; exact absurd b (by decide)
    · rw [q] at b; exact absurd b (by decide)
theorem RS_ex {d V : Nat} {hi' : Int64} {ex ex' : Int32} (R : RS d V hi' ex ex') (hd : d ≤ 40000) (e1 : -100000 ≤ ex.toInt) (e2 : ex.toInt ≤ 100000) : ex.toInt ≤ ex'.toInt ∧ ex'.toInt ≤ ex.toInt + d + 1 := by
  rcases R with ⟨a, b, c, u, e⟩ | ⟨a, b, u, e⟩ | ⟨a, b, u, e⟩ | ⟨a, b, u, e⟩
  · rw [e]; omega
  · rw [e, i32_add1 (by omega)]; omega
  · rw [e]; omega
  · have x3 : (nI d - 63).toInt = d - 63 := i32S (nI_toInt (by omega)) rfl (by omega) (by omega)
    rw [e, i32A rfl x3 (by omega) (by omega)]
    omega
section Mk2
variable {hi lo : Int64} {ex z un : Int32} {mo : Bool} {rb : Nat → Bool} {wd tl : Int32} {bs : Bool} {n w : Nat} {jw hi' : Int64} {ex' : Int32} {ly bw lg : Bool} {P : Int32} {F : Int64}
theorem mk_fit (hk : un + g_M_highest z rb = ex + 63) (hdO : g_O_digits wd = nI n) (hdM : g_M_digits wd = nI n) (hwO : g_O_rounding wd = nI w) (eD : (64 : Int32) - nI n = nI (64 - n)) (hzf : ¬ g_S_isZero hi lo = true) (cO : 1 ≤ g_S_power ex) (cM : (-16382 : Int32) ≤ ex + 63)
    (g1 : g_M_times wd z un mo rb (((ex + 63) + 1) - nI n) bs = (jw, ly)) (r1 : g_S_round hi lo ex (nI (64 - n)) (nI w) bs = (ly, hi', 0, ex')) (L1 : (if nI n = 64 then if jw = 0 then true else false else false) = bw) (L2 : (if bw = true then true else if (64 : Int32) ≤ nI n then false else if (aR jw (nI n)) = 0 then false else true) = lg)
    (c1 : ¬ (16384 : Int32) ≤ (ex + 63) + b2i (if lg = true then true else false)) (c2 : g_S_power ex' ≤ 32766) (p1 : g_M_put bs jw bw (((ex + 63) + 1) - nI n) 0 = (g_M_answer bs P, F)) (p2 : g_R_putSize hi' 0 ex' = (P, F)) :
    (∃ X, g_O_make wd hi lo ex bs = ((if ly = true then 32 else 0), P, F, X)) ∧ (∃ Y, g_M_make wd z un mo tl rb bs = (tl + (if ly = true then 32 else 0), g_M_answer bs P, F, Y)) := by
  constructor
  · unfold g_O_make
    dsimp only
    rw [if_neg hzf, if_pos cO, hdO, hwO, eD, r1]
    dsimp only
    rw [if_pos c2, p2]
    exact ⟨_, rfl⟩
  · unfold g_M_make
    dsimp only
    rw [hk, hdM, if_pos cM, if_neg nff, g1]
    dsimp only
    rw [L1, L2, if_neg nff, if_neg c1, p1]
    dsimp only
    cases ly
    · rw [if_neg nff, if_neg nff, Int32.add_zero]
      exact ⟨_, rfl⟩
    · rw [if_pos ytt, if_pos ytt]
      exact ⟨_, rfl⟩
theorem mk_over (hk : un + g_M_highest z rb = ex + 63) (hdO : g_O_digits wd = nI n) (hdM : g_M_digits wd = nI n) (hwO : g_O_rounding wd = nI w) (eD : (64 : Int32) - nI n = nI (64 - n)) (hzf : ¬ g_S_isZero hi lo = true) (cO : 1 ≤ g_S_power ex) (cM : (-16382 : Int32) ≤ ex + 63)
    (g1 : g_M_times wd z un mo rb (((ex + 63) + 1) - nI n) bs = (jw, ly)) (r1 : g_S_round hi lo ex (nI (64 - n)) (nI w) bs = (ly, hi', 0, ex')) (L1 : (if nI n = 64 then if jw = 0 then true else false else false) = bw) (L2 : (if bw = true then true else if (64 : Int32) ≤ nI n then false else if (aR jw (nI n)) = 0 then false else true) = lg)
    (c1 : (16384 : Int32) ≤ (ex + 63) + b2i (if lg = true then true else false)) (c2 : ¬ g_S_power ex' ≤ 32766) (mk : (wd &&& 8) = 0) (p1 : g_M_put bs jw bw (((ex + 63) + 1) - nI n) (-24576) = (g_M_answer bs P, F)) (p2 : g_R_putSize hi' 0 (ex' - 24576) = (P, F)) :
    (∃ X, g_O_make wd hi lo ex bs = ((if ly = true then 40 else 8), P, F, X)) ∧ (∃ Y, g_M_make wd z un mo tl rb bs = (tl + (if ly = true then 40 else 8), g_M_answer bs P, F, Y)) := by
  constructor
  · unfold g_O_make g_O_answerGreat g_O_isMasked
    dsimp only
    rw [if_neg hzf, if_pos cO, hdO, hwO, eD, r1]
    dsimp only
    rw [if_neg c2, if_pos mk, if_neg nff, p2]
    dsimp only
    cases ly
    · rw [if_neg nff, if_neg nff]
      exact ⟨_, rfl⟩
    · rw [if_pos ytt, if_pos ytt]
      exact ⟨_, rfl⟩
  · unfold g_M_make
    dsimp only
    rw [hk, hdM, if_pos cM, if_neg nff, g1]
    dsimp only
    rw [L1, L2, if_neg nff, if_pos c1, if_pos mk, p1]
    dsimp only
    cases ly
    · rw [if_neg nff, if_neg nff]
      exact ⟨_, rfl⟩
    · rw [if_pos ytt, if_pos ytt, tl_add tl 32 8 40 (by decide)]
      exact ⟨_, rfl⟩
theorem mk_tiny (hk : un + g_M_highest z rb = ex + 63) (hdO : g_O_digits wd = nI n) (hdM : g_M_digits wd = nI n) (hwO : g_O_rounding wd = nI w) (eD : (64 : Int32) - nI n = nI (64 - n)) (hzf : ¬ g_S_isZero hi lo = true) (cO : ¬ 1 ≤ g_S_power ex) (cM : ¬ (-16382 : Int32) ≤ ex + 63)
    (g1 : g_M_times wd z un mo rb (((ex + 63) + 1) - nI n) bs = (jw, ly)) (r1 : g_S_round hi lo ex (nI (64 - n)) (nI w) bs = (ly, hi', 0, ex')) (L1 : (if nI n = 64 then if jw = 0 then true else false else false) = bw)
    (mk : (wd &&& 16) = 0) (p1 : g_M_put bs jw bw (((ex + 63) + 1) - nI n) 24576 = (g_M_answer bs P, F)) (p2 : g_R_putSize hi' 0 (ex' + 24576) = (P, F)) :
    (∃ X, g_O_make wd hi lo ex bs = ((if ly = true then 48 else 16), P, F, X)) ∧ (∃ Y, g_M_make wd z un mo tl rb bs = (tl + (if ly = true then 48 else 16), g_M_answer bs P, F, Y)) := by
  constructor
  · unfold g_O_make g_O_roundSmall g_O_isMasked
    dsimp only
    rw [if_neg hzf, if_neg cO, hdO, hwO, eD, if_pos mk, if_neg nff, r1]
    dsimp only
    cases ly
    · rw [if_neg nff, if_neg nff, p2]
      exact ⟨_, rfl⟩
    · rw [if_pos ytt, if_pos ytt, p2]
      exact ⟨_, rfl⟩
  · unfold g_M_make
    dsimp only
    rw [hk, hdM, if_neg cM, if_pos ytt, if_pos mk, g1]
    dsimp only
    rw [L1, if_pos ytt, p1]
    dsimp only
    cases ly
    · rw [if_neg nff, if_neg nff]
      exact ⟨_, rfl⟩
    · rw [if_pos ytt, if_pos ytt, tl_add tl 32 16 48 (by decide)]
      exact ⟨_, rfl⟩
theorem mk_small {d : Nat} (hk : un + g_M_highest z rb = ex + 63) (hdO : g_O_digits wd = nI n) (hdM : g_M_digits wd = nI n) (hwO : g_O_rounding wd = nI w) (eD : (64 : Int32) - nI n = nI (64 - n)) (eDs : nI (64 - n) + ((1 : Int32) - g_S_power ex) = nI d) (hzf : ¬ g_S_isZero hi lo = true) (cO : ¬ 1 ≤ g_S_power ex) (cM : ¬ (-16382 : Int32) ≤ ex + 63)
    (g1 : g_M_times wd z un mo rb ((-16381) - nI n) bs = (jw, ly)) (r1 : g_S_round hi lo ex (nI d) (nI w) bs = (ly, hi', 0, ex'))
    (mk : ¬ (wd &&& 16) = 0) (p1 : g_M_put bs jw false ((-16381) - nI n) 0 = (g_M_answer bs P, F)) (p2 : g_R_putSize hi' 0 ex' = (P, F)) :
    (∃ X, g_O_make wd hi lo ex bs = ((if ly = true then 48 else 0), P, F, X)) ∧ (∃ Y, g_M_make wd z un mo tl rb bs = (tl + (if ly = true then 48 else 0), g_M_answer bs P, F, Y)) := by
  constructor
  · unfold g_O_make g_O_roundSmall g_O_isMasked
    dsimp only
    rw [if_neg hzf, if_neg cO, hdO, hwO, eD, eDs, if_neg mk, if_pos ytt, r1]
    dsimp only
    cases ly
    · rw [if_neg nff, if_neg nff, p2]
      exact ⟨_, rfl⟩
    · rw [if_pos ytt, if_pos ytt, p2]
      exact ⟨_, rfl⟩
  · unfold g_M_make
    dsimp only
    rw [hk, hdM, if_neg cM, if_pos ytt, if_neg mk, g1]
    dsimp only
    rw [p1]
    dsimp only
    cases ly
    · rw [if_neg nff, if_neg nff, Int32.add_zero]
      exact ⟨_, rfl⟩
    · rw [if_pos ytt, if_pos ytt, tl_add tl 16 32 48 (by decide)]
      exact ⟨_, rfl⟩
theorem mk_overm (hk : un + g_M_highest z rb = ex + 63) (hdO : g_O_digits wd = nI n) (hdM : g_M_digits wd = nI n) (hwO : g_O_rounding wd = nI w) (hwM : (wd / 1024) - (wd / 1024) / 4 * 4 = nI w) (hw : w < 4) (eD : (64 : Int32) - nI n = nI (64 - n)) (hzf : ¬ g_S_isZero hi lo = true) (cO : 1 ≤ g_S_power ex) (cM : (-16382 : Int32) ≤ ex + 63)
    (g1 : g_M_times wd z un mo rb (((ex + 63) + 1) - nI n) bs = (jw, ly)) (r1 : g_S_round hi lo ex (nI (64 - n)) (nI w) bs = (ly, hi', 0, ex')) (L1 : (if nI n = 64 then if jw = 0 then true else false else false) = bw) (L2 : (if bw = true then true else if (64 : Int32) ≤ nI n then false else if (aR jw (nI n)) = 0 then false else true) = lg)
    (c1 : (16384 : Int32) ≤ (ex + 63) + b2i (if lg = true then true else false)) (c2 : ¬ g_S_power ex' ≤ 32766) (mk : ¬ (wd &&& 8) = 0) :
    ∃ P F, ((∃ X, g_O_make wd hi lo ex bs = (40, P, F, X)) ∧ (∃ Y, g_M_make wd z un mo tl rb bs = (tl + 40, g_M_answer bs P, F, Y))) ∧ 0 ≤ P.toInt ∧ P.toInt ≤ 32767 := by
  have e40 : (if ly = true then (32 : Int32) else 0) ||| 40 = 40 := by cases ly <;> decide
  have e40' : ((if ly = true then (tl + 32) else tl) + 8) + (if ly = true then (0 : Int32) else 32) = tl + 40 := by
    cases ly
    · rw [if_neg nff, if_neg nff, tl_add tl 8 32 40 (by decide)]
    · rw [if_pos ytt, if_pos ytt, tl_add tl 32 8 40 (by decide), tl_add tl 40 0 40 (by decide)]
  have dd : ∃ en : Bool, (if (nI w : Int32) = 0 then true else if (nI w : Int32) = (if bs = true then 1 else 2) then true else false) = en ∧ ∀ A B : Int32 × Int32 × Int64 × Int32, (if (nI w : Int32) = 0 then A else if (nI w : Int32) = (if bs = true then 1 else 2) then A else B) = if en = true then A else B := by
    refine ⟨_, rfl, ?_⟩
    intro A B
    by_cases a : (nI w : Int32) = 0
    · rw [if_pos a, if_pos a, if_pos ytt]
    · rw [if_neg a, if_neg a]
      by_cases b : (nI w : Int32) = (if bs = true then 1 else 2)
      · rw [if_pos b, if_pos b, if_pos ytt]
      · rw [if_neg b, if_neg b, if_neg nff]
  obtain ⟨en, d1, d2⟩ := dd
  have hO : g_O_make wd hi lo ex bs = (let zz := (if en = true then (40, 32767, -9223372036854775808, ex') else (40, 32766, sL (-1) (nI (64 - n)), ex') : Int32 × Int32 × Int64 × Int32); ((if ly = true then (32 : Int32) else 0) ||| zz.1, zz.2.1, zz.2.2.1, hi', 0, zz.2.2.2)) := by
    unfold g_O_make g_O_answerGreat g_O_isMasked
    dsimp only
    rw [if_neg hzf, if_pos cO, hdO, hwO, eD, r1]
    dsimp only
    rw [if_neg c2, if_neg mk, if_pos ytt, d2]
  have hM : ∃ Y, g_M_make wd z un mo tl rb bs = (tl + 40, (if en = true then g_M_answer bs 32767 else g_M_answer bs 32766), (if en = true then -9223372036854775808 else sL (-1) (nI (64 - n))), Y) := by
    unfold g_M_make
    dsimp only
    rw [hk, hdM, if_pos cM, if_neg nff, g1]
    dsimp only
    rw [L1, L2, if_neg nff, if_pos c1, if_neg mk, hwM, e40', eD, d1]
    cases en
    · rw [if_neg nff, if_neg nff, if_neg nff]
      exact ⟨_, rfl⟩
    · rw [if_pos ytt, if_pos ytt, if_pos ytt]
      exact ⟨_, rfl⟩
  cases en
  · rw [if_neg nff] at hO
    rw [if_neg nff, if_neg nff] at hM
    refine ⟨32766, _, ⟨⟨(hi', 0, ex'), ?_⟩, hM⟩, by decide, by decide⟩
    rw [hO]
    dsimp only
    rw [e40]
  · rw [if_pos ytt] at hO
    rw [if_pos ytt, if_pos ytt] at hM
    refine ⟨32767, _, ⟨⟨(hi', 0, ex'), ?_⟩, hM⟩, by decide, by decide⟩
    rw [hO]
    dsimp only
    rw [e40]
end Mk2
