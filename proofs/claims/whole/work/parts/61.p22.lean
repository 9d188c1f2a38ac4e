/-! Pure rows, 22: behind the rules: endless numbers and the exact one. -/
section Tl
variable {pw : Nat → Int32} {pt : Nat → Int64} {mi : Nat → Bool} {wd t iop : Int32}
theorem E_0 : g_M_isEndless pw pt 0 = g_R_isInfinite (pw 0) (pt 0) := isEndless_R rfl rfl
theorem E_1 : g_M_isEndless pw pt 1 = g_R_isInfinite (pw 1) (pt 1) := isEndless_R rfl rfl
theorem N_0 : g_M_isNothing pw pt 0 = g_R_isNothing (pw 0) (pt 0) := isNothing_R rfl rfl
theorem N_1 : g_M_isNothing pw pt 1 = g_R_isNothing (pw 1) (pt 1) := isNothing_R rfl rfl
theorem U_0 : g_M_isUnnormal pw pt 0 = g_R_isUnnormalOfSize (pw 0) (pt 0) := isUnnormal_R rfl rfl
theorem U_1 : g_M_isUnnormal pw pt 1 = g_R_isUnnormalOfSize (pw 1) (pt 1) := isUnnormal_R rfl rfl
theorem D_0 : g_M_isDenormal pw pt 0 = g_R_isDenormal (pw 0) (pt 0) := isDenormal_R rfl rfl
theorem D_1 : g_M_isDenormal pw pt 1 = g_R_isDenormal (pw 1) (pt 1) := isDenormal_R rfl rfl
theorem bf {b : Bool} (h : b = false) : ¬ b = true := by rw [h]; decide
theorem tail_sum (hq : g_O_isQuotient iop = false) (hs : g_O_isSum iop = true) (h3 : ¬ (3 : Int32) ≤ iop) (h4 : ¬ iop = 4) (h5 : ¬ iop = 5) (h6 : ¬ iop = 6) (a0 : 0 ≤ (pw 0).toInt) (a1 : (pw 0).toInt ≤ 32767) (b0 : 0 ≤ (pw 1).toInt) (b1 : (pw 1).toInt ≤ 32767) (n0 : g_R_isNoNumber (pw 0) (pt 0) = false) (n1 : g_R_isNoNumber (pw 1) (pt 1) = false) (w0 : 0 ≤ wd.toInt) (ht : t = 0 ∨ t = 2) (h0 : g_O_isStopped wd t = false) (hi lo : Int64) (ex : Int32) (hi2 lo2 : Int64) (ex2 sz un : Int32) (mo : Bool) (tl : Int32) (sp : Bool) (tpo : Int32) (fro : Int64) (ly : Bool) (rb : Nat → Bool) :
    Rel wd (kTail t wd (mi 0) (pw 0) (pt 0) (mi 1) (pw 1) (pt 1) hi lo ex hi2 lo2 ex2 iop).1 (kTail t wd (mi 0) (pw 0) (pt 0) (mi 1) (pw 1) (pt 1) hi lo ex hi2 lo2 ex2 iop).2.2.1 (kTail t wd (mi 0) (pw 0) (pt 0) (mi 1) (pw 1) (pt 1) hi lo ex hi2 lo2 ex2 iop).2.2.2.1 (kTail t wd (mi 0) (pw 0) (pt 0) (mi 1) (pw 1) (pt 1) hi lo ex hi2 lo2 ex2 iop).2.2.2.2.1 (wTail t wd sz un mo tl sp tpo fro ly mi pw pt rb iop true).2.2.2.1 (wTail t wd sz un mo tl sp tpo fro ly mi pw pt rb iop true).2.2.2.2.1 (wTail t wd sz un mo tl sp tpo fro ly mi pw pt rb iop true).2.2.2.2.2.1 (wTail t wd sz un mo tl sp tpo fro ly mi pw pt rb iop true).2.2.2.2.2.2.1 := by
  unfold kTail wTail
  cases i0 : g_R_isInfinite (pw 0) (pt 0)
  · cases i1 : g_R_isInfinite (pw 1) (pt 1)
    · obtain ⟨bs, gh, gl, ge, ⟨X, hC⟩, hO⟩ := sum_both (mi := mi) (tl := t) a0 (finite_p a1 (bf i0) (bf n0)) b0 (finite_p b1 (bf i1) (bf n1)) w0 ly rb
      have hE : g_O_computeExactly wd (mi 0) (pw 0) (pt 0) (mi 1) (pw 1) (pt 1) iop = (bs, gh, gl, ge, X) := by
        unfold g_O_computeExactly
        dsimp only
        rw [if_pos hs, hC]
      simp only [E_0, E_1, hq, h3, h4, h5, h6, i0, i1, c_0, c_1, Bool.false_eq_true, ↓reduceIte, hE]
      exact Rel_out ht h0 hO
    · have hA : g_O_answerOfInfinite (mi 0) (pw 0) (pt 0) (mi 1) (pw 1) (pt 1) iop = (mi 1, 32767, -9223372036854775808) := by
        unfold g_O_answerOfInfinite
        rw [if_neg (bf hq), if_pos hs, if_neg (bf i0)]
      simp only [E_0, E_1, hq, h3, h4, h5, h6, i0, i1, c_0, c_1, Bool.false_eq_true, ↓reduceIte, hA]
      exact ⟨rfl, h0.symm, fun _ => ⟨rfl, rfl, by decide, by decide⟩⟩
  · have hA : g_O_answerOfInfinite (mi 0) (pw 0) (pt 0) (mi 1) (pw 1) (pt 1) iop = (mi 0, 32767, -9223372036854775808) := by
      unfold g_O_answerOfInfinite
      rw [if_neg (bf hq), if_pos hs, if_pos i0]
    simp only [E_0, E_1, hq, h3, h4, h5, h6, i0, c_0, c_1, Bool.false_eq_true, ↓reduceIte, hA]
    exact ⟨rfl, h0.symm, fun _ => ⟨rfl, rfl, by decide, by decide⟩⟩
theorem tail_prod (a0 : 0 ≤ (pw 0).toInt) (a1 : (pw 0).toInt ≤ 32767) (b0 : 0 ≤ (pw 1).toInt) (b1 : (pw 1).toInt ≤ 32767) (w0 : 0 ≤ wd.toInt) (ht : t = 0 ∨ t = 2) (h0 : g_O_isStopped wd t = false) (hi lo : Int64) (ex : Int32) (hi2 lo2 : Int64) (ex2 sz un : Int32) (mo : Bool) (tl : Int32) (sp : Bool) (tpo : Int32) (fro : Int64) (ly : Bool) (rb : Nat → Bool) (hi3 : iop = 3) :
    Rel wd (kTail t wd (mi 0) (pw 0) (pt 0) (mi 1) (pw 1) (pt 1) hi lo ex hi2 lo2 ex2 iop).1 (kTail t wd (mi 0) (pw 0) (pt 0) (mi 1) (pw 1) (pt 1) hi lo ex hi2 lo2 ex2 iop).2.2.1 (kTail t wd (mi 0) (pw 0) (pt 0) (mi 1) (pw 1) (pt 1) hi lo ex hi2 lo2 ex2 iop).2.2.2.1 (kTail t wd (mi 0) (pw 0) (pt 0) (mi 1) (pw 1) (pt 1) hi lo ex hi2 lo2 ex2 iop).2.2.2.2.1 (wTail t wd sz un mo tl sp tpo fro ly mi pw pt rb iop true).2.2.2.1 (wTail t wd sz un mo tl sp tpo fro ly mi pw pt rb iop true).2.2.2.2.1 (wTail t wd sz un mo tl sp tpo fro ly mi pw pt rb iop true).2.2.2.2.2.1 (wTail t wd sz un mo tl sp tpo fro ly mi pw pt rb iop true).2.2.2.2.2.2.1 := by
  have hq : g_O_isQuotient iop = false := by rw [hi3]; rfl
  have hs : g_O_isSum iop = false := by rw [hi3]; rfl
  have h3 : (3 : Int32) ≤ iop := by rw [hi3]; decide
  have h4 : ¬ iop = 4 := by rw [hi3]; decide
  have h5 : ¬ iop = 5 := by rw [hi3]; decide
  have h6 : ¬ iop = 6 := by rw [hi3]; decide
  have hA : g_O_answerOfInfinite (mi 0) (pw 0) (pt 0) (mi 1) (pw 1) (pt 1) iop = (g_O_hasOppositeSigns (mi 0) (mi 1), 32767, -9223372036854775808) := by
    unfold g_O_answerOfInfinite
    rw [if_neg (bf hq), if_neg (bf hs)]
  have hop : (if mi 0 = mi 1 then false else true) = g_O_hasOppositeSigns (mi 0) (mi 1) := rfl
  unfold kTail wTail
  cases i0 : g_R_isInfinite (pw 0) (pt 0)
  · cases i1 : g_R_isInfinite (pw 1) (pt 1)
    · obtain ⟨gh, gl, ge, hC, hO⟩ := product_both (wd := wd) (tl := t) (pt := pt) a0 a1 b0 b1 w0 ly rb (g_O_hasOppositeSigns (mi 0) (mi 1))
      have hE : ∃ X, g_O_computeExactly wd (mi 0) (pw 0) (pt 0) (mi 1) (pw 1) (pt 1) iop = (g_O_hasOppositeSigns (mi 0) (mi 1), gh, gl, ge, X) := by
        unfold g_O_computeExactly
        dsimp only
        rw [if_neg (bf hs), if_neg h6, if_pos hi3, hC]
        exact ⟨_, rfl⟩
      obtain ⟨X, hE⟩ := hE
      simp only [E_0, E_1, hq, h3, h4, h5, h6, i0, i1, hi3, c_0, c_1, Bool.false_eq_true, ↓reduceIte, hop]
      simp only [hi3] at hE
      simp only [hE]
      exact Rel_out ht h0 hO
    · simp only [E_0, E_1, hq, h3, h4, h5, h6, i0, i1, c_0, c_1, Bool.false_eq_true, ↓reduceIte, hA, hop]
      exact ⟨rfl, h0.symm, fun _ => ⟨rfl, rfl, by decide, by decide⟩⟩
  · simp only [E_0, E_1, hq, h3, h4, h5, h6, i0, c_0, c_1, Bool.false_eq_true, ↓reduceIte, hA, hop]
    exact ⟨rfl, h0.symm, fun _ => ⟨rfl, rfl, by decide, by decide⟩⟩
theorem tail_quo (a0 : 0 ≤ (pw 0).toInt) (a1 : (pw 0).toInt ≤ 32767) (b0 : 0 ≤ (pw 1).toInt) (b1 : (pw 1).toInt ≤ 32767) (n0 : g_R_isNoNumber (pw 0) (pt 0) = false) (n1 : g_R_isNoNumber (pw 1) (pt 1) = false) (w0 : 0 ≤ wd.toInt) (ht : t = 0 ∨ t = 2) (h0 : g_O_isStopped wd t = false) (hi lo : Int64) (ex : Int32) (hi2 lo2 : Int64) (ex2 sz un : Int32) (mo : Bool) (tl : Int32) (sp : Bool) (tpo : Int32) (fro : Int64) (ly : Bool) (rb : Nat → Bool) (hi45 : iop = 4 ∨ iop = 5) :
    Rel wd (kTail t wd (mi 0) (pw 0) (pt 0) (mi 1) (pw 1) (pt 1) hi lo ex hi2 lo2 ex2 iop).1 (kTail t wd (mi 0) (pw 0) (pt 0) (mi 1) (pw 1) (pt 1) hi lo ex hi2 lo2 ex2 iop).2.2.1 (kTail t wd (mi 0) (pw 0) (pt 0) (mi 1) (pw 1) (pt 1) hi lo ex hi2 lo2 ex2 iop).2.2.2.1 (kTail t wd (mi 0) (pw 0) (pt 0) (mi 1) (pw 1) (pt 1) hi lo ex hi2 lo2 ex2 iop).2.2.2.2.1 (wTail t wd sz un mo tl sp tpo fro ly mi pw pt rb iop true).2.2.2.1 (wTail t wd sz un mo tl sp tpo fro ly mi pw pt rb iop true).2.2.2.2.1 (wTail t wd sz un mo tl sp tpo fro ly mi pw pt rb iop true).2.2.2.2.2.1 (wTail t wd sz un mo tl sp tpo fro ly mi pw pt rb iop true).2.2.2.2.2.2.1 := by
  have hq : g_O_isQuotient iop = true := by rcases hi45 with rfl | rfl <;> rfl
  have hs : g_O_isSum iop = false := by rcases hi45 with rfl | rfl <;> rfl
  have h3 : (3 : Int32) ≤ iop := by rcases hi45 with rfl | rfl <;> decide
  have h3' : ¬ iop = 3 := by rcases hi45 with rfl | rfl <;> decide
  have h6 : ¬ iop = 6 := by rcases hi45 with rfl | rfl <;> decide
  have h45 : (if iop = 4 then true else if iop = 5 then true else false) = true := by rcases hi45 with rfl | rfl <;> decide
  have hop : (if mi 0 = mi 1 then false else true) = g_O_hasOppositeSigns (mi 0) (mi 1) := rfl
  unfold kTail wTail
  cases i0 : g_R_isInfinite (pw 0) (pt 0)
  · cases z1 : g_R_isNothing (pw 1) (pt 1)
    · cases i1 : g_R_isInfinite (pw 1) (pt 1)
      · have f1 := finite_p b1 (bf i1) (bf n1)
        have nz : ¬ pt 1 = 0 := by
          intro q
          have c : ¬ (32766 : Int32) < pw 1 := by rw [Int32.lt_iff_toInt_lt]; show ¬ (32766 : Int) < _; omega
          unfold g_R_isNothing at z1
          rw [if_neg c, if_pos q] at z1
          exact absurd z1 (by decide)
        obtain ⟨gh, gl, ge, hC, hO⟩ := quotient_both (wd := wd) (tl := t) (pt := pt) a0 (finite_p a1 (bf i0) (bf n0)) b0 f1 nz w0 sz un mo ly rb (g_O_hasOppositeSigns (mi 0) (mi 1))
        have hE : ∃ X, g_O_computeExactly wd (mi 0) (pw 0) (pt 0) (mi 1) (pw 1) (pt 1) iop = (g_O_hasOppositeSigns (mi 0) (mi 1), gh, gl, ge, X) := by
          unfold g_O_computeExactly
          dsimp only
          rw [if_neg (bf hs), if_neg h6, if_neg h3', hC]
          exact ⟨_, rfl⟩
        obtain ⟨X, hE⟩ := hE
        simp only [E_0, E_1, N_1, hq, h3, h3', h6, h45, i0, i1, z1, c_0, c_1, Bool.false_eq_true, ↓reduceIte, hop, hE]
        exact Rel_out ht h0 hO
      · have hA : g_O_answerOfInfinite (mi 0) (pw 0) (pt 0) (mi 1) (pw 1) (pt 1) iop = (g_O_hasOppositeSigns (mi 0) (mi 1), 0, 0) := by
          unfold g_O_answerOfInfinite
          rw [if_pos hq, if_pos i1]
        simp only [E_0, E_1, N_1, hq, h3, h3', h6, h45, i0, i1, z1, c_0, c_1, Bool.false_eq_true, ↓reduceIte, hop, hA]
        exact ⟨rfl, h0.symm, fun _ => ⟨rfl, rfl, by decide, by decide⟩⟩
    · have s4 := stop4 wd ht h0
      have e4 : t + 4 = (t ||| 4) := by rcases ht with rfl | rfl <;> decide
      by_cases m : (wd &&& 4) = 0
      · rw [if_pos m] at s4
        simp only [E_0, E_1, N_1, g_M_tell, m, hq, h3, h3', h6, h45, i0, z1, c_0, c_1, Bool.false_eq_true, ↓reduceIte, hop]
        exact ⟨e4, s4.symm, fun q => absurd q (by decide)⟩
      · rw [if_neg m] at s4
        simp only [E_0, E_1, N_1, g_M_tell, m, hq, h3, h3', h6, h45, i0, z1, c_0, c_1, Bool.false_eq_true, ↓reduceIte, hop]
        exact ⟨e4, s4.symm, fun _ => ⟨rfl, rfl, by decide, by decide⟩⟩
  · cases i1 : g_R_isInfinite (pw 1) (pt 1)
    · have hA : g_O_answerOfInfinite (mi 0) (pw 0) (pt 0) (mi 1) (pw 1) (pt 1) iop = (g_O_hasOppositeSigns (mi 0) (mi 1), 32767, -9223372036854775808) := by
        unfold g_O_answerOfInfinite
        rw [if_pos hq, if_neg (bf i1), if_neg (bf hs)]
      cases z1 : g_R_isNothing (pw 1) (pt 1)
      · simp only [E_0, E_1, N_1, hq, h3, h3', h6, h45, i0, i1, z1, c_0, c_1, Bool.false_eq_true, ↓reduceIte, hop, hA]
        exact ⟨rfl, h0.symm, fun _ => ⟨rfl, rfl, by decide, by decide⟩⟩
      · simp only [E_0, E_1, N_1, hq, h3, h3', h6, h45, i0, i1, z1, c_0, c_1, Bool.false_eq_true, ↓reduceIte, hop, hA]
        exact ⟨rfl, h0.symm, fun _ => ⟨rfl, rfl, by decide, by decide⟩⟩
    · have hA : g_O_answerOfInfinite (mi 0) (pw 0) (pt 0) (mi 1) (pw 1) (pt 1) iop = (g_O_hasOppositeSigns (mi 0) (mi 1), 0, 0) := by
        unfold g_O_answerOfInfinite
        rw [if_pos hq, if_pos i1]
      cases z1 : g_R_isNothing (pw 1) (pt 1)
      · simp only [E_0, E_1, N_1, hq, h3, h3', h6, h45, i0, i1, z1, c_0, c_1, Bool.false_eq_true, ↓reduceIte, hop, hA]
        exact ⟨rfl, h0.symm, fun _ => ⟨rfl, rfl, by decide, by decide⟩⟩
      · simp only [E_0, E_1, N_1, hq, h3, h3', h6, h45, i0, i1, z1, c_0, c_1, Bool.false_eq_true, ↓reduceIte, hop, hA]
        exact ⟨rfl, h0.symm, fun _ => ⟨rfl, rfl, by decide, by decide⟩⟩
theorem tail_root (a0 : 0 ≤ (pw 0).toInt) (a1 : (pw 0).toInt ≤ 32767) (n0 : g_R_isNoNumber (pw 0) (pt 0) = false) (hv : g_O_isInvalidRoot wd (mi 0) (pw 0) (pt 0) = false) (w0 : 0 ≤ wd.toInt) (ht : t = 0 ∨ t = 2) (h0 : g_O_isStopped wd t = false) (hi lo : Int64) (ex : Int32) (hi2 lo2 : Int64) (ex2 sz un : Int32) (mo : Bool) (tl : Int32) (sp : Bool) (tpo : Int32) (fro : Int64) (ly : Bool) (rb : Nat → Bool) :
    Rel wd (kTail t wd (mi 0) (pw 0) (pt 0) (mi 0) (pw 0) (pt 0) hi lo ex hi2 lo2 ex2 6).1 (kTail t wd (mi 0) (pw 0) (pt 0) (mi 0) (pw 0) (pt 0) hi lo ex hi2 lo2 ex2 6).2.2.1 (kTail t wd (mi 0) (pw 0) (pt 0) (mi 0) (pw 0) (pt 0) hi lo ex hi2 lo2 ex2 6).2.2.2.1 (kTail t wd (mi 0) (pw 0) (pt 0) (mi 0) (pw 0) (pt 0) hi lo ex hi2 lo2 ex2 6).2.2.2.2.1 (wTail t wd sz un mo tl sp tpo fro ly mi pw pt rb 6 false).2.2.2.1 (wTail t wd sz un mo tl sp tpo fro ly mi pw pt rb 6 false).2.2.2.2.1 (wTail t wd sz un mo tl sp tpo fro ly mi pw pt rb 6 false).2.2.2.2.2.1 (wTail t wd sz un mo tl sp tpo fro ly mi pw pt rb 6 false).2.2.2.2.2.2.1 := by
  have hq : g_O_isQuotient 6 = false := rfl
  have hs : g_O_isSum 6 = false := rfl
  have h3 : (3 : Int32) ≤ 6 := by decide
  have h3' : ¬ (6 : Int32) = 3 := by decide
  have h45 : (if (6 : Int32) = 4 then true else if (6 : Int32) = 5 then true else false) = false := by decide
  have hA : g_O_answerOfInfinite (mi 0) (pw 0) (pt 0) (mi 0) (pw 0) (pt 0) 6 = (false, 32767, -9223372036854775808) := by
    unfold g_O_answerOfInfinite g_O_hasOppositeSigns
    rw [if_neg (bf hq), if_neg (bf hs), if_pos rfl]
  unfold kTail wTail
  cases i0 : g_R_isInfinite (pw 0) (pt 0)
  · obtain ⟨gh, gl, ge, hC, hO⟩ := root_both (wd := wd) (tl := t) (pt := pt) (mi := mi) a0 (finite_p a1 (bf i0) (bf n0)) (by
      intro nz
      have c : ¬ (32766 : Int32) < pw 0 := by
        have := finite_p a1 (bf i0) (bf n0)
        rw [Int32.lt_iff_toInt_lt]
        show ¬ (32766 : Int) < _
        omega
      have nn : ¬ g_R_isNothing (pw 0) (pt 0) = true := by
        unfold g_R_isNothing
        rw [if_neg c, if_neg nz]
        decide
      unfold g_O_isInvalidRoot at hv
      cases g : mi 0
      · rfl
      · rw [if_pos g, if_neg nn] at hv
        exact absurd hv (by decide)) w0 sz un mo ly rb
    have hE : ∃ X, g_O_computeExactly wd (mi 0) (pw 0) (pt 0) (mi 0) (pw 0) (pt 0) 6 = (mi 0, gh, gl, ge, X) := by
      unfold g_O_computeExactly
      dsimp only
      rw [if_neg (bf hs), if_pos rfl, hC]
      exact ⟨_, rfl⟩
    obtain ⟨X, hE⟩ := hE
    simp only [E_0, hq, h3, h3', h45, i0, c_0, c_1, Bool.false_eq_true, ↓reduceIte, hE]
    exact Rel_out ht h0 hO
  · simp only [E_0, hq, h3, h3', h45, i0, c_0, c_1, Bool.false_eq_true, ↓reduceIte, hA]
    exact ⟨rfl, h0.symm, fun _ => ⟨rfl, rfl, by decide, by decide⟩⟩
end Tl
