/-! Pure rows, 23: the rules in their order. -/
section Wk
variable {pw : Nat → Int32} {pt : Nat → Int64} {mi : Nat → Bool} {wd iop : Int32}
theorem wrong_sum (hs : g_O_isSum iop = true) (h3 : ¬ (3 : Int32) ≤ iop) (h6 : ¬ iop = 6) : g_M_isWrong wd mi pw pt iop = g_O_isInvalid wd (mi 0) (pw 0) (pt 0) (mi 1) (pw 1) (pt 1) iop := by
  unfold g_M_isWrong g_O_isInvalid g_O_hasTwoInfinites g_O_hasOppositeSigns
  dsimp only
  rw [E_0, E_1, if_neg h6, if_neg h3, if_neg h6, if_pos hs, if_pos hs, c_0, c_1]
  generalize g_R_isInfinite (pw 0) (pt 0) = I0
  generalize g_R_isInfinite (pw 1) (pt 1) = I1
  generalize mi 0 = a
  generalize mi 1 = b
  by_cases c : (wd &&& 4096) = 0
  · rw [if_pos c, if_pos c]
    cases I0 <;> cases I1 <;> cases a <;> cases b <;> rfl
  · rw [if_neg c, if_neg c]
    cases I0 <;> cases I1 <;> cases a <;> cases b <;> rfl
theorem wrong_prod : g_M_isWrong wd mi pw pt 3 = g_O_isInvalid wd (mi 0) (pw 0) (pt 0) (mi 1) (pw 1) (pt 1) 3 := by
  have hs : ¬ g_O_isSum 3 = true := by decide
  have h3 : (3 : Int32) ≤ 3 := by decide
  have h6 : ¬ (3 : Int32) = 6 := by decide
  unfold g_M_isWrong g_O_isInvalid
  dsimp only
  rw [E_0, E_1, N_0, N_1]
  simp only [h6, h3, hs, ↓reduceIte]
  generalize g_R_isInfinite (pw 0) (pt 0) = I0
  generalize g_R_isInfinite (pw 1) (pt 1) = I1
  generalize g_R_isNothing (pw 0) (pt 0) = N0
  generalize g_R_isNothing (pw 1) (pt 1) = N1
  cases I0 <;> cases I1 <;> cases N0 <;> cases N1 <;> rfl
theorem wrong_quo (hi45 : iop = 4 ∨ iop = 5) : g_M_isWrong wd mi pw pt iop = g_O_isInvalid wd (mi 0) (pw 0) (pt 0) (mi 1) (pw 1) (pt 1) iop := by
  have hs : g_O_isSum iop = false := by rcases hi45 with rfl | rfl <;> rfl
  have h3 : (3 : Int32) ≤ iop := by rcases hi45 with rfl | rfl <;> decide
  have h3' : ¬ iop = 3 := by rcases hi45 with rfl | rfl <;> decide
  have h6 : ¬ iop = 6 := by rcases hi45 with rfl | rfl <;> decide
  unfold g_M_isWrong g_O_isInvalid
  dsimp only
  rw [E_0, E_1, N_0, N_1, U_1]
  simp only [h6, h3, h3', hs, Bool.false_eq_true, ↓reduceIte]
theorem wrong_root : g_M_isWrong wd mi pw pt 6 = g_O_isInvalidRoot wd (mi 0) (pw 0) (pt 0) := by
  unfold g_M_isWrong g_O_isInvalidRoot g_O_hasTwoInfinites
  dsimp only
  rw [E_0, N_0, U_0, c_0, if_pos rfl]
  generalize g_R_isInfinite (pw 0) (pt 0) = I0
  generalize g_R_isNothing (pw 0) (pt 0) = N0
  generalize g_R_isUnnormalOfSize (pw 0) (pt 0) = U0
  generalize mi 0 = a
  by_cases c : (wd &&& 4096) = 0
  · rw [if_pos c, if_pos c]
    cases I0 <;> cases N0 <;> cases U0 <;> cases a <;> rfl
  · rw [if_neg c, if_neg c]
    cases I0 <;> cases N0 <;> cases U0 <;> cases a <;> rfl
theorem work5 {n2o : Bool} (hj : (if (g_O_isDifference iop) = true then if n2o = true then false else true else n2o) = mi 1) (hwr : g_M_isWrong wd mi pw pt iop = g_O_isInvalid wd (mi 0) (pw 0) (pt 0) (mi 1) (pw 1) (pt 1) iop) (h6 : ¬ (6 : Int32) ≤ iop) (n0 : g_R_isNoNumber (pw 0) (pt 0) = false) (n1 : g_R_isNoNumber (pw 1) (pt 1) = false) (n3 : Bool) (p3 : Int32) (f3 hi lo : Int64) (ex : Int32) (hi2 lo2 : Int64) (ex2 sz un : Int32) (mo : Bool) (tpo : Int32) (fro : Int64) (ly : Bool) (rb : Nat → Bool)
    (tl : g_O_isInvalid wd (mi 0) (pw 0) (pt 0) (mi 1) (pw 1) (pt 1) iop = false → ∀ t : Int32, (t = 0 ∨ t = 2) → g_O_isStopped wd t = false → Rel wd (kTail t wd (mi 0) (pw 0) (pt 0) (mi 1) (pw 1) (pt 1) hi lo ex hi2 lo2 ex2 iop).1 (kTail t wd (mi 0) (pw 0) (pt 0) (mi 1) (pw 1) (pt 1) hi lo ex hi2 lo2 ex2 iop).2.2.1 (kTail t wd (mi 0) (pw 0) (pt 0) (mi 1) (pw 1) (pt 1) hi lo ex hi2 lo2 ex2 iop).2.2.2.1 (kTail t wd (mi 0) (pw 0) (pt 0) (mi 1) (pw 1) (pt 1) hi lo ex hi2 lo2 ex2 iop).2.2.2.2.1 (wTail t wd sz un mo 0 false tpo fro ly mi pw pt rb iop true).2.2.2.1 (wTail t wd sz un mo 0 false tpo fro ly mi pw pt rb iop true).2.2.2.2.1 (wTail t wd sz un mo 0 false tpo fro ly mi pw pt rb iop true).2.2.2.2.2.1 (wTail t wd sz un mo 0 false tpo fro ly mi pw pt rb iop true).2.2.2.2.2.2.1) :
    Rel wd (g_O_carryOut wd (mi 0) (pw 0) (pt 0) n2o (pw 1) (pt 1) n3 p3 f3 hi lo ex hi2 lo2 ex2 iop).1 (g_O_carryOut wd (mi 0) (pw 0) (pt 0) n2o (pw 1) (pt 1) n3 p3 f3 hi lo ex hi2 lo2 ex2 iop).2.2.1 (g_O_carryOut wd (mi 0) (pw 0) (pt 0) n2o (pw 1) (pt 1) n3 p3 f3 hi lo ex hi2 lo2 ex2 iop).2.2.2.1 (g_O_carryOut wd (mi 0) (pw 0) (pt 0) n2o (pw 1) (pt 1) n3 p3 f3 hi lo ex hi2 lo2 ex2 iop).2.2.2.2.1 (g_M_work wd sz un mo 0 false tpo fro ly mi pw pt rb iop).2.2.2.1 (g_M_work wd sz un mo 0 false tpo fro ly mi pw pt rb iop).2.2.2.2.1 (g_M_work wd sz un mo 0 false tpo fro ly mi pw pt rb iop).2.2.2.2.2.1 (g_M_work wd sz un mo 0 false tpo fro ly mi pw pt rb iop).2.2.2.2.2.2.1 := by
  have k1 : g_O_carryOut wd (mi 0) (pw 0) (pt 0) n2o (pw 1) (pt 1) n3 p3 f3 hi lo ex hi2 lo2 ex2 iop = if (g_O_isInvalid wd (mi 0) (pw 0) (pt 0) (mi 1) (pw 1) (pt 1) iop) = true then (1, mi 1, true, 32767, (-4611686018427387904), hi, lo, ex, hi2, lo2, ex2) else if (g_O_isStopped wd (if (g_R_isDenormal (pw 0) (pt 0)) = true then 2 else if (g_R_isDenormal (pw 1) (pt 1)) = true then 2 else 0)) = true then ((if (g_R_isDenormal (pw 0) (pt 0)) = true then 2 else if (g_R_isDenormal (pw 1) (pt 1)) = true then 2 else 0), mi 1, n3, p3, f3, hi, lo, ex, hi2, lo2, ex2) else kTail (if (g_R_isDenormal (pw 0) (pt 0)) = true then 2 else if (g_R_isDenormal (pw 1) (pt 1)) = true then 2 else 0) wd (mi 0) (pw 0) (pt 0) (mi 1) (pw 1) (pt 1) hi lo ex hi2 lo2 ex2 iop := by
    unfold g_O_carryOut kTail
    dsimp only
    rw [if_neg (bf n0), if_neg (bf n1), hj]
  rw [k1]
  cases inv : g_O_isInvalid wd (mi 0) (pw 0) (pt 0) (mi 1) (pw 1) (pt 1) iop
  · rw [inv] at hwr
    have tl := tl inv
    rw [if_neg nff]
    have s2 := stop2 wd
    have tail2 : (g_O_isStopped wd 2 = false) → g_M_work wd sz un mo 0 false tpo fro ly mi pw pt rb iop = wTail 2 wd sz un mo 0 false tpo fro ly mi pw pt rb iop true → Rel wd (if (g_O_isStopped wd 2) = true then ((2 : Int32), mi 1, n3, p3, f3, hi, lo, ex, hi2, lo2, ex2) else kTail 2 wd (mi 0) (pw 0) (pt 0) (mi 1) (pw 1) (pt 1) hi lo ex hi2 lo2 ex2 iop).1 (if (g_O_isStopped wd 2) = true then ((2 : Int32), mi 1, n3, p3, f3, hi, lo, ex, hi2, lo2, ex2) else kTail 2 wd (mi 0) (pw 0) (pt 0) (mi 1) (pw 1) (pt 1) hi lo ex hi2 lo2 ex2 iop).2.2.1 (if (g_O_isStopped wd 2) = true then ((2 : Int32), mi 1, n3, p3, f3, hi, lo, ex, hi2, lo2, ex2) else kTail 2 wd (mi 0) (pw 0) (pt 0) (mi 1) (pw 1) (pt 1) hi lo ex hi2 lo2 ex2 iop).2.2.2.1 (if (g_O_isStopped wd 2) = true then ((2 : Int32), mi 1, n3, p3, f3, hi, lo, ex, hi2, lo2, ex2) else kTail 2 wd (mi 0) (pw 0) (pt 0) (mi 1) (pw 1) (pt 1) hi lo ex hi2 lo2 ex2 iop).2.2.2.2.1 (g_M_work wd sz un mo 0 false tpo fro ly mi pw pt rb iop).2.2.2.1 (g_M_work wd sz un mo 0 false tpo fro ly mi pw pt rb iop).2.2.2.2.1 (g_M_work wd sz un mo 0 false tpo fro ly mi pw pt rb iop).2.2.2.2.2.1 (g_M_work wd sz un mo 0 false tpo fro ly mi pw pt rb iop).2.2.2.2.2.2.1 := by
      intro hs hW
      rw [if_neg (bf hs), hW]
      exact tl 2 (Or.inr rfl) hs
    cases d0 : g_R_isDenormal (pw 0) (pt 0)
    · rw [if_neg nff]
      cases d1 : g_R_isDenormal (pw 1) (pt 1)
      · rw [if_neg nff, if_neg (bf (stop0 wd))]
        have hW : g_M_work wd sz un mo 0 false tpo fro ly mi pw pt rb iop = wTail 0 wd sz un mo 0 false tpo fro ly mi pw pt rb iop true := by
          unfold g_M_work wTail
          simp only [hwr, D_0, D_1, d0, d1, h6, Bool.false_eq_true, ↓reduceIte]
        rw [hW]
        exact tl 0 (Or.inl rfl) (stop0 wd)
      · rw [if_pos ytt]
        by_cases m : (wd &&& 2) = 0
        · rw [if_pos m] at s2
          rw [if_pos s2]
          unfold g_M_work g_M_tell
          simp only [hwr, D_0, D_1, d0, d1, m, h6, Bool.false_eq_true, ↓reduceIte, Int32.zero_add]
          exact ⟨rfl, s2.symm, fun q => absurd q (by decide)⟩
        · rw [if_neg m] at s2
          refine tail2 s2 ?_
          unfold g_M_work wTail g_M_tell
          simp only [hwr, D_0, D_1, d0, d1, m, h6, Bool.false_eq_true, ↓reduceIte, Int32.zero_add]
    · rw [if_pos ytt]
      by_cases m : (wd &&& 2) = 0
      · rw [if_pos m] at s2
        rw [if_pos s2]
        unfold g_M_work g_M_tell
        simp only [hwr, D_0, D_1, d0, m, h6, Bool.false_eq_true, ↓reduceIte, Int32.zero_add]
        exact ⟨rfl, s2.symm, fun q => absurd q (by decide)⟩
      · rw [if_neg m] at s2
        refine tail2 s2 ?_
        unfold g_M_work wTail g_M_tell
        simp only [hwr, D_0, D_1, d0, m, h6, Bool.false_eq_true, ↓reduceIte, Int32.zero_add]
  · rw [inv] at hwr
    rw [if_pos ytt]
    have s1 := stop1 wd
    by_cases m : (wd &&& 1) = 0
    · rw [if_pos m] at s1
      unfold g_M_work g_M_tell
      simp only [hwr, m, Bool.false_eq_true, ↓reduceIte, Int32.zero_add]
      exact ⟨rfl, s1.symm, fun q => absurd q (by decide)⟩
    · rw [if_neg m] at s1
      unfold g_M_work g_M_tell
      simp only [hwr, m, Bool.false_eq_true, ↓reduceIte, Int32.zero_add]
      exact ⟨rfl, s1.symm, fun _ => ⟨rfl, rfl, by decide, by decide⟩⟩
theorem work6 (a0 : 0 ≤ (pw 0).toInt) (a1 : (pw 0).toInt ≤ 32767) (w0 : 0 ≤ wd.toInt) (n0 : g_R_isNoNumber (pw 0) (pt 0) = false) (n3 : Bool) (p3 : Int32) (f3 hi lo : Int64) (ex : Int32) (hi2 lo2 : Int64) (ex2 sz un : Int32) (mo : Bool) (tpo : Int32) (fro : Int64) (ly : Bool) (rb : Nat → Bool) :
    Rel wd (g_O_carryOut wd (mi 0) (pw 0) (pt 0) (mi 0) (pw 0) (pt 0) n3 p3 f3 hi lo ex hi2 lo2 ex2 6).1 (g_O_carryOut wd (mi 0) (pw 0) (pt 0) (mi 0) (pw 0) (pt 0) n3 p3 f3 hi lo ex hi2 lo2 ex2 6).2.2.1 (g_O_carryOut wd (mi 0) (pw 0) (pt 0) (mi 0) (pw 0) (pt 0) n3 p3 f3 hi lo ex hi2 lo2 ex2 6).2.2.2.1 (g_O_carryOut wd (mi 0) (pw 0) (pt 0) (mi 0) (pw 0) (pt 0) n3 p3 f3 hi lo ex hi2 lo2 ex2 6).2.2.2.2.1 (g_M_work wd sz un mo 0 false tpo fro ly mi pw pt rb 6).2.2.2.1 (g_M_work wd sz un mo 0 false tpo fro ly mi pw pt rb 6).2.2.2.2.1 (g_M_work wd sz un mo 0 false tpo fro ly mi pw pt rb 6).2.2.2.2.2.1 (g_M_work wd sz un mo 0 false tpo fro ly mi pw pt rb 6).2.2.2.2.2.2.1 := by
  have hdf : g_O_isDifference 6 = false := rfl
  have hiv : g_O_isInvalid wd (mi 0) (pw 0) (pt 0) (mi 0) (pw 0) (pt 0) 6 = g_O_isInvalidRoot wd (mi 0) (pw 0) (pt 0) := by
    unfold g_O_isInvalid
    rw [if_pos rfl]
  have k1 : g_O_carryOut wd (mi 0) (pw 0) (pt 0) (mi 0) (pw 0) (pt 0) n3 p3 f3 hi lo ex hi2 lo2 ex2 6 = if (g_O_isInvalidRoot wd (mi 0) (pw 0) (pt 0)) = true then (1, mi 0, true, 32767, (-4611686018427387904), hi, lo, ex, hi2, lo2, ex2) else if (g_O_isStopped wd (if (g_R_isDenormal (pw 0) (pt 0)) = true then 2 else if (g_R_isDenormal (pw 0) (pt 0)) = true then 2 else 0)) = true then ((if (g_R_isDenormal (pw 0) (pt 0)) = true then 2 else if (g_R_isDenormal (pw 0) (pt 0)) = true then 2 else 0), mi 0, n3, p3, f3, hi, lo, ex, hi2, lo2, ex2) else kTail (if (g_R_isDenormal (pw 0) (pt 0)) = true then 2 else if (g_R_isDenormal (pw 0) (pt 0)) = true then 2 else 0) wd (mi 0) (pw 0) (pt 0) (mi 0) (pw 0) (pt 0) hi lo ex hi2 lo2 ex2 6 := by
    unfold g_O_carryOut kTail
    dsimp only
    rw [if_neg (bf n0), if_neg (bf n0), if_neg (bf hdf), hiv]
  have hwr := wrong_root (wd := wd) (mi := mi) (pw := pw) (pt := pt)
  have h6 : (6 : Int32) ≤ 6 := by decide
  rw [k1]
  cases inv : g_O_isInvalidRoot wd (mi 0) (pw 0) (pt 0)
  · rw [inv] at hwr
    rw [if_neg nff]
    have s2 := stop2 wd
    cases d0 : g_R_isDenormal (pw 0) (pt 0)
    · rw [if_neg nff, if_neg nff, if_neg (bf (stop0 wd))]
      have hW : g_M_work wd sz un mo 0 false tpo fro ly mi pw pt rb 6 = wTail 0 wd sz un mo 0 false tpo fro ly mi pw pt rb 6 false := by
        unfold g_M_work wTail
        simp only [hwr, D_0, d0, h6, Bool.false_eq_true, ↓reduceIte]
      rw [hW]
      exact tail_root a0 a1 n0 inv w0 (Or.inl rfl) (stop0 wd) hi lo ex hi2 lo2 ex2 sz un mo 0 false tpo fro ly rb
    · rw [if_pos ytt]
      by_cases m : (wd &&& 2) = 0
      · rw [if_pos m] at s2
        rw [if_pos s2]
        unfold g_M_work g_M_tell
        simp only [hwr, D_0, d0, m, h6, Bool.false_eq_true, ↓reduceIte, Int32.zero_add]
        exact ⟨rfl, s2.symm, fun q => absurd q (by decide)⟩
      · rw [if_neg m] at s2
        rw [if_neg (bf s2)]
        have hW : g_M_work wd sz un mo 0 false tpo fro ly mi pw pt rb 6 = wTail 2 wd sz un mo 0 false tpo fro ly mi pw pt rb 6 false := by
          unfold g_M_work wTail g_M_tell
          simp only [hwr, D_0, d0, m, h6, Bool.false_eq_true, ↓reduceIte, Int32.zero_add]
        rw [hW]
        exact tail_root a0 a1 n0 inv w0 (Or.inr rfl) s2 hi lo ex hi2 lo2 ex2 sz un mo 0 false tpo fro ly rb
  · rw [inv] at hwr
    rw [if_pos ytt]
    have s1 := stop1 wd
    by_cases m : (wd &&& 1) = 0
    · rw [if_pos m] at s1
      unfold g_M_work g_M_tell
      simp only [hwr, m, Bool.false_eq_true, ↓reduceIte, Int32.zero_add]
      exact ⟨rfl, s1.symm, fun q => absurd q (by decide)⟩
    · rw [if_neg m] at s1
      unfold g_M_work g_M_tell
      simp only [hwr, m, Bool.false_eq_true, ↓reduceIte, Int32.zero_add]
      exact ⟨rfl, s1.symm, fun _ => ⟨rfl, rfl, by decide, by decide⟩⟩
end Wk
