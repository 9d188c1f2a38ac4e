/-! Own pure rows: unsigned comparison, registers, and that the loops end. -/
theorem cU_int (x : Int64) : (x + (-9223372036854775808)).toInt = (uN x : Int) - 9223372036854775808 := by
  have h := uN_lt x
  have e : uN (-9223372036854775808) = 9223372036854775808 := by decide
  rw [uN_int, uN_add, e]
  split <;> omega
theorem cU_spec (x y : Int64) : g_Lg_compareUnsigned x y = if uN x < uN y then -1 else if uN x = uN y then 0 else 1 := by
  have hx := cU_int x
  have hy := cU_int y
  have h1 : (y + (-9223372036854775808) ≤ x + (-9223372036854775808)) ↔ uN y ≤ uN x := by
    rw [Int64.le_iff_toInt_le, hx, hy]; omega
  have h2 : (x + (-9223372036854775808) = y + (-9223372036854775808)) ↔ uN x = uN y := by
    rw [← Int64.toInt_inj, hx, hy]; omega
  unfold g_Lg_compareUnsigned g_Lg_compare
  simp only [h1, h2]
  by_cases a : uN x < uN y
  · rw [if_neg (by omega), if_pos a]
  · rw [if_pos (by omega), if_neg a]
theorem cU_lt (x y : Int64) : g_Lg_compareUnsigned x y < 0 ↔ uN x < uN y := by
  rw [cU_spec]
  by_cases a : uN x < uN y
  · rw [if_pos a]; exact ⟨fun _ => a, fun _ => by decide⟩
  · rw [if_neg a]
    by_cases b : uN x = uN y
    · rw [if_pos b]; exact ⟨fun h => absurd h (by decide), fun h => absurd h a⟩
    · rw [if_neg b]; exact ⟨fun h => absurd h (by decide), fun h => absurd h a⟩
theorem cU_gt (x y : Int64) : 0 < g_Lg_compareUnsigned x y ↔ uN y < uN x := by
  rw [cU_spec]
  by_cases a : uN x < uN y
  · rw [if_pos a]; exact ⟨fun h => absurd h (by decide), fun h => absurd a (by omega)⟩
  · rw [if_neg a]
    by_cases b : uN x = uN y
    · rw [if_pos b]; exact ⟨fun h => absurd h (by decide), fun h => absurd b (by omega)⟩
    · rw [if_neg b]; exact ⟨fun _ => by omega, fun _ => by decide⟩
theorem cU_eq (x y : Int64) : g_Lg_compareUnsigned x y = 0 ↔ uN x = uN y := by
  rw [cU_spec]
  by_cases a : uN x < uN y
  · rw [if_pos a]; exact ⟨fun h => absurd h (by decide), fun h => absurd a (by omega)⟩
  · rw [if_neg a]
    by_cases b : uN x = uN y
    · rw [if_pos b]; exact ⟨fun _ => b, fun _ => rfl⟩
    · rw [if_neg b]; exact ⟨fun h => absurd h (by decide), fun h => absurd h b⟩
theorem i32_cmp (r : Int32) : (0 ≤ r ↔ ¬ r < 0) ∧ (r ≤ 0 ↔ ¬ 0 < r) := by
  constructor
  · rw [Int32.le_iff_toInt_le, Int32.lt_iff_toInt_lt]; omega
  · rw [Int32.le_iff_toInt_le, Int32.lt_iff_toInt_lt]; omega
theorem cU_ge (x y : Int64) : 0 ≤ g_Lg_compareUnsigned x y ↔ uN y ≤ uN x := by
  rw [(i32_cmp _).1, cU_lt]; omega
theorem cU_le (x y : Int64) : g_Lg_compareUnsigned x y ≤ 0 ↔ uN x ≤ uN y := by
  rw [(i32_cmp _).2, cU_gt]; omega
theorem reg_in {i : Int32} (h : g_O_isRegister i = true) : vp_in i 8 := by
  rw [vp_in_iff]
  unfold g_O_isRegister at h
  have e0 : (0 : Int32).toInt = 0 := rfl
  have e8 : (8 : Int32).toInt = 8 := rfl
  by_cases h1 : i < 0
  · rw [if_pos h1] at h; cases h
  · rw [if_neg h1] at h
    by_cases h2 : 8 ≤ i
    · rw [if_pos h2] at h; cases h
    · rw [Int32.lt_iff_toInt_lt] at h1
      rw [Int32.le_iff_toInt_le] at h2
      omega
theorem lrun_end {S : Type} (nx : S → Option S) (μ : S → Nat) (hd : ∀ v w, nx v = some w → μ w < μ v) : ∀ (n : Nat) (v : S), μ v ≤ n → nx (lrun nx n v) = none := by
  intro n
  induction n with
  | zero =>
    intro v hv
    rw [lrun_zero]
    cases h : nx v with
    | none => rfl
    | some w => exact absurd (hd v w h) (by omega)
  | succ n ih =>
    intro v hv
    cases h : nx v with
    | none => rw [lrun_none h]; exact h
    | some w => rw [lrun_some h]; exact ih w (by have := hd v w h; omega)
theorem i32_add1 {i : Int32} (h : i.toInt < 2147483647) : (i + 1).toInt = i.toInt + 1 := by
  have h1 : -2147483648 ≤ i.toInt := Int32.le_toInt i
  rw [Int32.toInt_add, show (1 : Int32).toInt = 1 from rfl]
  exact Int.bmod_eq_of_le (by omega) (by omega)
theorem i32_sub1 {i : Int32} (h : -2147483648 < i.toInt) : (i + (-1)).toInt = i.toInt - 1 := by
  have h1 : i.toInt < 2147483648 := Int32.toInt_lt i
  rw [Int32.toInt_add, show (-1 : Int32).toInt = -1 from rfl]
  rw [Int.bmod_eq_of_le (by omega) (by omega)]
  rfl
theorem S_normalize_end (hi lo : Int64) (ex : Int32) : nx_S_normalize_17 (lrun nx_S_normalize_17 128 (0, hi, lo, ex)) = none := by
  refine lrun_end _ (fun v => (128 - v.1.toInt).toNat) ?_ _ _ ?_
  · intro v w h
    unfold nx_S_normalize_17 at h
    by_cases c1 : 128 ≤ v.1
    · rw [if_pos c1] at h; cases h
    · rw [if_neg c1] at h
      by_cases c2 : v.2.1 < 0
      · rw [if_pos c2] at h; cases h
      · rw [if_neg c2] at h
        cases h
        rw [Int32.le_iff_toInt_le] at c1
        have e : (128 : Int32).toInt = 128 := rfl
        show (128 - (v.1 + 1).toInt).toNat < (128 - v.1.toInt).toNat
        rw [i32_add1 (by omega)]
        omega
  · show (128 - (0 : Int32).toInt).toNat ≤ 128
    decide
theorem min128 (i : Int32) : (if 128 < i then 128 else i : Int32).toInt ≤ 128 := by
  have e : (128 : Int32).toInt = 128 := rfl
  by_cases h : 128 < i
  · rw [if_pos h]; decide
  · rw [if_neg h]
    rw [Int32.lt_iff_toInt_lt] at h
    omega
theorem S_shiftRight_end (ipl : Int32) (hi lo : Int64) : nx_S_shiftRight_10 ipl (lrun (nx_S_shiftRight_10 ipl) 128 (0, hi, lo)) = none := by
  have hm := min128 ipl
  refine lrun_end _ (fun v => ((if 128 < ipl then 128 else ipl : Int32).toInt - v.1.toInt).toNat) ?_ _ _ ?_
  · intro v w h
    unfold nx_S_shiftRight_10 at h
    generalize (if 128 < ipl then 128 else ipl : Int32) = bd at *
    by_cases c1 : bd ≤ v.1
    · rw [if_pos c1] at h; cases h
    · rw [if_neg c1] at h
      cases h
      rw [Int32.le_iff_toInt_le] at c1
      show (bd.toInt - (v.1 + 1).toInt).toNat < (bd.toInt - v.1.toInt).toNat
      rw [i32_add1 (by omega)]
      omega
  · show ((if 128 < ipl then 128 else ipl : Int32).toInt - (0 : Int32).toInt).toNat ≤ 128
    have e : (0 : Int32).toInt = 0 := rfl
    omega
theorem S_divide_end (hi2 hi : Int64) : nx_S_divide_21 hi2 (lrun (nx_S_divide_21 hi2) 128 (hi, false, 0, 0, 0)) = none := by
  refine lrun_end _ (fun v => (128 - v.2.2.1.toInt).toNat) ?_ _ _ ?_
  · intro v w h
    unfold nx_S_divide_21 at h
    by_cases c1 : 128 ≤ v.2.2.1
    · rw [if_pos c1] at h; cases h
    · rw [if_neg c1] at h
      cases h
      rw [Int32.le_iff_toInt_le] at c1
      have e : (128 : Int32).toInt = 128 := rfl
      show (128 - (v.2.2.1 + 1).toInt).toNat < (128 - v.2.2.1.toInt).toNat
      rw [i32_add1 (by omega)]
      omega
  · show (128 - (0 : Int32).toInt).toNat ≤ 128
    decide
theorem S_takeRoot_end (hi : Int64) (ex : Int32) (j lo : Int64) : nx_S_takeRoot_46 hi ex j (lrun (nx_S_takeRoot_46 hi ex j) 64 (0, 63, hi, lo)) = none := by
  refine lrun_end _ (fun v => (v.2.1.toInt + 1).toNat) ?_ _ _ ?_
  · intro v w h
    unfold nx_S_takeRoot_46 at h
    by_cases c1 : v.2.1 < 0
    · rw [if_pos c1] at h; cases h
    · rw [if_neg c1] at h
      cases h
      rw [Int32.lt_iff_toInt_lt] at c1
      have e : (0 : Int32).toInt = 0 := rfl
      show ((v.2.1 + (-1)).toInt + 1).toNat < (v.2.1.toInt + 1).toNat
      rw [i32_sub1 (by omega)]
      omega
  · show ((63 : Int32).toInt + 1).toNat ≤ 64
    decide

