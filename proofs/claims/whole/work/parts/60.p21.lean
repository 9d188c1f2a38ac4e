/-! Pure rows, 21: the rules before the exact number: the control's three bits; what both sides do behind them. -/
theorem and7_x (v w : Int32) : ((v &&& 7) &&& (w ^^^ (-1))) = ((v &&& 7) &&& ((w &&& 7) ^^^ 7)) := by
  apply Int32.toBitVec_inj.mp
  show (v.toBitVec &&& 7#32) &&& (w.toBitVec ^^^ (-1#32)) = (v.toBitVec &&& 7#32) &&& ((w.toBitVec &&& 7#32) ^^^ 7#32)
  apply BitVec.eq_of_getLsbD_eq
  intro i hi
  have e : (-1#32) = BitVec.allOnes 32 := by decide
  rw [e, BitVec.getLsbD_and, BitVec.getLsbD_and, BitVec.getLsbD_and, BitVec.getLsbD_and, BitVec.getLsbD_xor, BitVec.getLsbD_xor, BitVec.getLsbD_and, BitVec.getLsbD_allOnes, decide_eq_true hi]
  cases v.toBitVec.getLsbD i <;> cases (7#32).getLsbD i <;> cases w.toBitVec.getLsbD i <;> rfl
theorem and_7v (w v : Int32) (h : 7 &&& v = v) : w &&& v = (w &&& 7) &&& v := by rw [Int32.and_assoc, h]
theorem low3 (wd : Int32) : ∃ k : Nat, k < 8 ∧ (∀ v, g_O_isStopped wd v = if ((v &&& 7) &&& (nI k ^^^ 7)) = 0 then false else true) ∧ (wd &&& 1) = (nI k &&& 1) ∧ (wd &&& 2) = (nI k &&& 2) ∧ (wd &&& 4) = (nI k &&& 4) := by
  have b : (wd &&& 7).toBitVec.toNat = wd.toBitVec.toNat % 8 := by
    show (wd.toBitVec &&& 7#32).toNat = _
    rw [BitVec.toNat_and]
    exact Nat.and_two_pow_sub_one_eq_mod _ 3
  have l : wd.toBitVec.toNat % 8 < 8 := Nat.mod_lt _ (by decide)
  have e : wd &&& 7 = nI (wd.toBitVec.toNat % 8) := by
    apply Int32.toBitVec_inj.mp
    apply BitVec.eq_of_toNat_eq
    rw [b]
    show _ = (BitVec.ofNat 32 (wd.toBitVec.toNat % 8)).toNat
    rw [BitVec.toNat_ofNat, Nat.mod_eq_of_lt (a := wd.toBitVec.toNat % 8) (by omega)]
  refine ⟨_, l, ?_, ?_, ?_, ?_⟩
  · intro v
    unfold g_O_isStopped
    rw [and7_x, e]
  · rw [and_7v wd 1 (by decide), e]
  · rw [and_7v wd 2 (by decide), e]
  · rw [and_7v wd 4 (by decide), e]
/-- what is told and stops -/
theorem stop1 (wd : Int32) : g_O_isStopped wd 1 = (if (wd &&& 1) = 0 then true else false) := by
  obtain ⟨k, hk, h, e1, _, _⟩ := low3 wd
  rw [h, e1]
  clear h e1
  rcases (show k = 0 ∨ k = 1 ∨ k = 2 ∨ k = 3 ∨ k = 4 ∨ k = 5 ∨ k = 6 ∨ k = 7 by omega) with rfl | rfl | rfl | rfl | rfl | rfl | rfl | rfl <;> decide
theorem stop2 (wd : Int32) : g_O_isStopped wd 2 = (if (wd &&& 2) = 0 then true else false) := by
  obtain ⟨k, hk, h, _, e2, _⟩ := low3 wd
  rw [h, e2]
  clear h e2
  rcases (show k = 0 ∨ k = 1 ∨ k = 2 ∨ k = 3 ∨ k = 4 ∨ k = 5 ∨ k = 6 ∨ k = 7 by omega) with rfl | rfl | rfl | rfl | rfl | rfl | rfl | rfl <;> decide
theorem stop0 (wd : Int32) : g_O_isStopped wd 0 = false := by
  obtain ⟨k, hk, h, _, _, _⟩ := low3 wd
  rw [h]
  clear h
  rcases (show k = 0 ∨ k = 1 ∨ k = 2 ∨ k = 3 ∨ k = 4 ∨ k = 5 ∨ k = 6 ∨ k = 7 by omega) with rfl | rfl | rfl | rfl | rfl | rfl | rfl | rfl <;> decide
theorem stop4 (wd : Int32) {t : Int32} (ht : t = 0 ∨ t = 2) (hs : g_O_isStopped wd t = false) : g_O_isStopped wd (t ||| 4) = (if (wd &&& 4) = 0 then true else false) := by
  obtain ⟨k, hk, h, _, _, e4⟩ := low3 wd
  rw [h] at hs
  rw [h, e4]
  clear h e4
  rcases ht with rfl | rfl <;> rcases (show k = 0 ∨ k = 1 ∨ k = 2 ∨ k = 3 ∨ k = 4 ∨ k = 5 ∨ k = 6 ∨ k = 7 by omega) with rfl | rfl | rfl | rfl | rfl | rfl | rfl | rfl <;> first | decide | (exact absurd hs (by decide))
theorem stopS (wd : Int32) {t s : Int32} (ht : t = 0 ∨ t = 2) (hs : sOk s) (h0 : g_O_isStopped wd t = false) : g_O_isStopped wd (t ||| s) = false ∧ t + s = (t ||| s) := by
  have e : ((t ||| s) &&& 7) = (t &&& 7) ∧ t + s = (t ||| s) := by
    rcases ht with rfl | rfl <;> rcases hs with rfl | rfl | rfl | rfl | rfl | rfl <;> decide
  refine ⟨?_, e.2⟩
  unfold g_O_isStopped at h0 ⊢
  rw [e.1]
  exact h0
noncomputable def wTail (t9 : Int32) (wd : Int32) (sz1 : Int32) (un : Int32) (mo : Bool) (tl : Int32) (sp : Bool) (tpo : Int32) (fro : Int64) (ly : Bool) (mi : Nat → Bool) (pw : Nat → Int32) (pt : Nat → Int64) (rb : Nat → Bool) (iop : Int32) (j11_0 : Bool) : Int32 × Int32 × Bool × Int32 × Bool × Int32 × Int64 × Bool × (Nat → Bool) := (let j89_0 : Bool := if (mi (0 : Int32).toNatClampNeg) = (mi (1 : Int32).toNatClampNeg) then false else true; (let j105_0 : Bool := if iop = 4 then true else if iop = 5 then true else false; (if (if j105_0 = true then if (g_M_isNothing pw pt 1) = true then if (g_M_isEndless pw pt 0) = true then false else let z130 : Bool × Int32 × Bool := g_M_tell wd t9 4; (if z130.1 = true then true else true) else false else false) = true then if j105_0 = true then if (g_M_isNothing pw pt 1) = true then if (g_M_isEndless pw pt 0) = true then (sz1, un, mo, tl, sp, tpo, fro, ly, rb) else let z130 : Bool × Int32 × Bool := g_M_tell wd t9 4; (if z130.1 = true then (sz1, un, mo, z130.2.1, z130.2.2, (g_M_answer j89_0 32767), (-9223372036854775808), ly, rb) else (sz1, un, mo, z130.2.1, z130.2.2, tpo, fro, ly, rb)) else (sz1, un, mo, tl, sp, tpo, fro, ly, rb) else (sz1, un, mo, tl, sp, tpo, fro, ly, rb) else (if (if (g_M_isEndless pw pt 0) = true then if iop = 6 then true else if 3 ≤ iop then if j105_0 = true then if (g_M_isEndless pw pt 1) = true then true else true else true else let j219_0 : Bool := if (g_M_isEndless pw pt 0) = true then (mi (0 : Int32).toNatClampNeg) else (mi (1 : Int32).toNatClampNeg); (true) else if j11_0 = true then if (g_M_isEndless pw pt 1) = true then if iop = 6 then true else if 3 ≤ iop then if j105_0 = true then if (g_M_isEndless pw pt 1) = true then true else true else true else let j219_0 : Bool := if (g_M_isEndless pw pt 0) = true then (mi (0 : Int32).toNatClampNeg) else (mi (1 : Int32).toNatClampNeg); (true) else false else false) = true then if (g_M_isEndless pw pt 0) = true then if iop = 6 then (sz1, un, mo, t9, false, (g_M_answer false 32767), (-9223372036854775808), ly, rb) else if 3 ≤ iop then if j105_0 = true then if (g_M_isEndless pw pt 1) = true then (sz1, un, mo, t9, false, (g_M_answer j89_0 0), 0, ly, rb) else (sz1, un, mo, t9, false, (g_M_answer j89_0 32767), (-9223372036854775808), ly, rb) else (sz1, un, mo, t9, false, (g_M_answer j89_0 32767), (-9223372036854775808), ly, rb) else let j219_0 : Bool := if (g_M_isEndless pw pt 0) = true then (mi (0 : Int32).toNatClampNeg) else (mi (1 : Int32).toNatClampNeg); ((sz1, un, mo, t9, false, (g_M_answer j219_0 32767), (-9223372036854775808), ly, rb)) else if j11_0 = true then if (g_M_isEndless pw pt 1) = true then if iop = 6 then (sz1, un, mo, t9, false, (g_M_answer false 32767), (-9223372036854775808), ly, rb) else if 3 ≤ iop then if j105_0 = true then if (g_M_isEndless pw pt 1) = true then (sz1, un, mo, t9, false, (g_M_answer j89_0 0), 0, ly, rb) else (sz1, un, mo, t9, false, (g_M_answer j89_0 32767), (-9223372036854775808), ly, rb) else (sz1, un, mo, t9, false, (g_M_answer j89_0 32767), (-9223372036854775808), ly, rb) else let j219_0 : Bool := if (g_M_isEndless pw pt 0) = true then (mi (0 : Int32).toNatClampNeg) else (mi (1 : Int32).toNatClampNeg); ((sz1, un, mo, t9, false, (g_M_answer j219_0 32767), (-9223372036854775808), ly, rb)) else (sz1, un, mo, tl, sp, tpo, fro, ly, rb) else (sz1, un, mo, tl, sp, tpo, fro, ly, rb) else (if 3 ≤ iop then if iop = 3 then let z287 : Int32 × Int32 × Int32 × Int64 × Bool × (Nat → Bool) := g_M_product wd t9 ly pw pt rb j89_0; ((130, z287.1, false, z287.2.1, false, z287.2.2.1, z287.2.2.2.1, z287.2.2.2.2.1, z287.2.2.2.2.2)) else if j105_0 = true then let z300 : Int32 × Int32 × Bool × Int32 × Int32 × Int64 × Bool × (Nat → Bool) := g_M_quotient wd sz1 un mo t9 ly pw pt rb j89_0; ((z300.1, z300.2.1, z300.2.2.1, z300.2.2.2.1, false, z300.2.2.2.2.1, z300.2.2.2.2.2.1, z300.2.2.2.2.2.2.1, z300.2.2.2.2.2.2.2)) else let z307 : Int32 × Int32 × Bool × Int32 × Int32 × Int64 × Bool × (Nat → Bool) := g_M_root wd sz1 un mo t9 ly mi pw pt rb; ((z307.1, z307.2.1, z307.2.2.1, z307.2.2.2.1, false, z307.2.2.2.2.1, z307.2.2.2.2.2.1, z307.2.2.2.2.2.2.1, z307.2.2.2.2.2.2.2)) else let z274 : Int32 × Int32 × Int32 × Int32 × Int64 × Bool × (Nat → Bool) := g_M_sum wd t9 ly mi pw pt rb; ((z274.1, z274.2.1, false, z274.2.2.1, false, z274.2.2.2.1, z274.2.2.2.2.1, z274.2.2.2.2.2.1, z274.2.2.2.2.2.2)))))))
noncomputable def kTail (t9 : Int32) (cw : Int32) (n1 : Bool) (p1 : Int32) (f1 : Int64) (n2 : Bool) (p2 : Int32) (f2 : Int64) (hi : Int64) (lo : Int64) (ex : Int32) (hi2 : Int64) (lo2 : Int64) (ex2 : Int32) (iop : Int32) : Int32 × Bool × Bool × Int32 × Int64 × Int64 × Int64 × Int32 × Int64 × Int64 × Int32 := if (g_O_isQuotient iop) = true then if (g_R_isNothing p2 f2) = true then if (g_R_isInfinite p1 f1) = true then if (g_R_isInfinite p1 f1) = true then let z185 : Bool × Int32 × Int64 := g_O_answerOfInfinite n1 p1 f1 n2 p2 f2 iop; ((t9, n2, z185.1, z185.2.1, z185.2.2, hi, lo, ex, hi2, lo2, ex2)) else if (g_R_isInfinite p2 f2) = true then let z185 : Bool × Int32 × Int64 := g_O_answerOfInfinite n1 p1 f1 n2 p2 f2 iop; ((t9, n2, z185.1, z185.2.1, z185.2.2, hi, lo, ex, hi2, lo2, ex2)) else let z194 : Bool × Int64 × Int64 × Int32 × Int64 × Int64 × Int32 := g_O_computeExactly cw n1 p1 f1 n2 p2 f2 iop; (let z197 : Int32 × Int32 × Int64 × Int64 × Int64 × Int32 := g_O_make cw z194.2.1 z194.2.2.1 z194.2.2.2.1 z194.1; (((t9 ||| z197.1), n2, z194.1, z197.2.1, z197.2.2.1, z197.2.2.2.1, z197.2.2.2.2.1, z197.2.2.2.2.2, z194.2.2.2.2.1, z194.2.2.2.2.2.1, z194.2.2.2.2.2.2))) else ((t9 ||| 4), n2, (g_O_hasOppositeSigns n1 n2), 32767, (-9223372036854775808), hi, lo, ex, hi2, lo2, ex2) else if (g_R_isInfinite p1 f1) = true then let z185 : Bool × Int32 × Int64 := g_O_answerOfInfinite n1 p1 f1 n2 p2 f2 iop; ((t9, n2, z185.1, z185.2.1, z185.2.2, hi, lo, ex, hi2, lo2, ex2)) else if (g_R_isInfinite p2 f2) = true then let z185 : Bool × Int32 × Int64 := g_O_answerOfInfinite n1 p1 f1 n2 p2 f2 iop; ((t9, n2, z185.1, z185.2.1, z185.2.2, hi, lo, ex, hi2, lo2, ex2)) else let z194 : Bool × Int64 × Int64 × Int32 × Int64 × Int64 × Int32 := g_O_computeExactly cw n1 p1 f1 n2 p2 f2 iop; (let z197 : Int32 × Int32 × Int64 × Int64 × Int64 × Int32 := g_O_make cw z194.2.1 z194.2.2.1 z194.2.2.2.1 z194.1; (((t9 ||| z197.1), n2, z194.1, z197.2.1, z197.2.2.1, z197.2.2.2.1, z197.2.2.2.2.1, z197.2.2.2.2.2, z194.2.2.2.2.1, z194.2.2.2.2.2.1, z194.2.2.2.2.2.2))) else if (g_R_isInfinite p1 f1) = true then let z185 : Bool × Int32 × Int64 := g_O_answerOfInfinite n1 p1 f1 n2 p2 f2 iop; ((t9, n2, z185.1, z185.2.1, z185.2.2, hi, lo, ex, hi2, lo2, ex2)) else if (g_R_isInfinite p2 f2) = true then let z185 : Bool × Int32 × Int64 := g_O_answerOfInfinite n1 p1 f1 n2 p2 f2 iop; ((t9, n2, z185.1, z185.2.1, z185.2.2, hi, lo, ex, hi2, lo2, ex2)) else let z194 : Bool × Int64 × Int64 × Int32 × Int64 × Int64 × Int32 := g_O_computeExactly cw n1 p1 f1 n2 p2 f2 iop; (let z197 : Int32 × Int32 × Int64 × Int64 × Int64 × Int32 := g_O_make cw z194.2.1 z194.2.2.1 z194.2.2.2.1 z194.1; (((t9 ||| z197.1), n2, z194.1, z197.2.1, z197.2.2.1, z197.2.2.2.1, z197.2.2.2.2.1, z197.2.2.2.2.2, z194.2.2.2.2.1, z194.2.2.2.2.2.1, z194.2.2.2.2.2.2)))
def Rel (wd said : Int32) (ng : Bool) (pp : Int32) (ff : Int64) (told : Int32) (sp : Bool) (tp : Int32) (fr : Int64) : Prop :=
  told = said ∧ sp = g_O_isStopped wd said ∧ (sp = false → tp = g_M_answer ng pp ∧ fr = ff ∧ 0 ≤ pp.toInt ∧ pp.toInt ≤ 32767)
/-- the exact number's outcome is one of these -/
theorem Rel_out {wd t : Int32} (ht : t = 0 ∨ t = 2) (h0 : g_O_isStopped wd t = false) {bs : Bool} {hi lo : Int64} {ex : Int32} {a b : Int32} {c : Int64} (h : Out wd t bs hi lo ex a b c) : Rel wd (t ||| (g_O_make wd hi lo ex bs).1) bs (g_O_make wd hi lo ex bs).2.1 (g_O_make wd hi lo ex bs).2.2.1 a false b c := by
  obtain ⟨s, P, F, ⟨X, hX⟩, ha, hb, hc, p0, p1, hs⟩ := h
  obtain ⟨s1, s2⟩ := stopS wd ht hs h0
  rw [hX]
  exact ⟨by rw [ha, s2], s1.symm, fun _ => ⟨hb, hc, p0, p1⟩⟩
/-! the readers of both sides -/
theorem isNothing_R {p : Int32} {f : Int64} {pw : Nat → Int32} {pt : Nat → Int64} {i : Int32} (hp : pw i.toNatClampNeg = p) (hf : pt i.toNatClampNeg = f) : g_M_isNothing pw pt i = g_R_isNothing p f := by
  have c : ((32767 : Int32) ≤ p) ↔ (32766 : Int32) < p := by
    rw [Int32.le_iff_toInt_le, Int32.lt_iff_toInt_lt]
    show (32767 : Int) ≤ _ ↔ (32766 : Int) < _
    omega
  unfold g_M_isNothing g_R_isNothing
  rw [hp, hf]
  by_cases q : (32767 : Int32) ≤ p
  · rw [if_pos q, if_pos (c.mp q)]
  · rw [if_neg q, if_neg (fun w => q (c.mpr w))]
theorem isUnnormal_R {p : Int32} {f : Int64} {pw : Nat → Int32} {pt : Nat → Int64} {i : Int32} (hp : pw i.toNatClampNeg = p) (hf : pt i.toNatClampNeg = f) : g_M_isUnnormal pw pt i = g_R_isUnnormalOfSize p f := by
  have c : ((32767 : Int32) ≤ p) ↔ (32766 : Int32) < p := by
    rw [Int32.le_iff_toInt_le, Int32.lt_iff_toInt_lt]
    show (32767 : Int) ≤ _ ↔ (32766 : Int) < _
    omega
  have d : (p ≤ 0) ↔ p < 1 := by
    rw [Int32.le_iff_toInt_le, Int32.lt_iff_toInt_lt]
    show _ ≤ (0 : Int) ↔ _ < (1 : Int)
    omega
  unfold g_M_isUnnormal g_R_isUnnormalOfSize
  rw [hp, hf]
  by_cases r : p ≤ 0
  · rw [if_pos r, if_pos (d.mp r)]
  · rw [if_neg r, if_neg (fun w => r (d.mpr w))]
    by_cases q : (32767 : Int32) ≤ p
    · rw [if_pos q, if_pos (c.mp q)]
    · rw [if_neg q, if_neg (fun w => q (c.mpr w))]
theorem isEndless_R {p : Int32} {f : Int64} {pw : Nat → Int32} {pt : Nat → Int64} {i : Int32} (hp : pw i.toNatClampNeg = p) (hf : pt i.toNatClampNeg = f) : g_M_isEndless pw pt i = g_R_isInfinite p f := by
  unfold g_M_isEndless g_R_isInfinite
  rw [hp, hf]
theorem isNone_R {p : Int32} {f : Int64} {pw : Nat → Int32} {pt : Nat → Int64} {i : Int32} (hp : pw i.toNatClampNeg = p) (hf : pt i.toNatClampNeg = f) : g_M_isNone pw pt i = g_R_isNoNumber p f := by
  unfold g_M_isNone g_R_isNoNumber
  rw [hp, hf]
theorem isDenormal_R {p : Int32} {f : Int64} {pw : Nat → Int32} {pt : Nat → Int64} {i : Int32} (hp : pw i.toNatClampNeg = p) (hf : pt i.toNatClampNeg = f) : g_M_isDenormal pw pt i = g_R_isDenormal p f := by
  unfold g_M_isDenormal g_R_isDenormal
  rw [hp, hf]
/-- neither endless nor no number: a power below the greatest -/
theorem finite_p {p : Int32} {f : Int64} (h1 : p.toInt ≤ 32767) (hi : ¬ g_R_isInfinite p f = true) (hn : ¬ g_R_isNoNumber p f = true) : p.toInt ≤ 32766 := by
  apply Classical.byContradiction
  intro q
  have e : p = 32767 := Int32.toInt_inj.mp (by show _ = (32767 : Int); omega)
  unfold g_R_isInfinite at hi
  unfold g_R_isNoNumber at hn
  rw [if_pos e] at hi hn
  by_cases c : (sL f 1) = 0
  · rw [if_pos c] at hi; exact hi rfl
  · rw [if_neg c] at hn; exact hn rfl
