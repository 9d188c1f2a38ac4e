/-! Own pure rows: unsigned comparison, registers, and that the loops end. -/
theorem cU_int (x : Int64) : (x + (-9223372036854775808)).toInt = (uN x : Int) - 9223372036854775808 := by
  have h := uN_lt x
  have e : uN (-9223372036854775808) = 9223372036854775808 := by decide
  rw [uN_int, uN_add, e]
  split <;> omega
theorem cU_spec (x y : Int64) : g_Lg_compareUnsigned x y = if uN x < uN y then -1 else if uN x = uN y then 0 else 1 := by
  have hx := cU_int x
  have hy := cU_int y
  have h1 : (y + (-9223372036854775808) ≤ x + (-9223372036854775808)) ↔ uN y ≤ uN x := by
    rw [Int64.le_iff_toInt_le, hx, hy]; omega
  have h2 : (x + (-9223372036854775808) = y + (-9223372036854775808)) ↔ uN x = uN y := by
    rw [← Int64.toInt_inj, hx, hy]; omega
  unfold g_Lg_compareUnsigned g_Lg_compare
  simp only [h1, h2]
  by_cases a : uN x < uN y
  · rw [if_neg (by omega), if_pos a]
  · rw [if_pos (by omega), if_neg a]
theorem cU_lt (x y : Int64) : g_Lg_compareUnsigned x y < 0 ↔ uN x < uN y := by
  rw [cU_spec]
  by_cases a : uN x < uN y
  · rw [if_pos a]; exact ⟨fun _ => a, fun _ => by decide⟩
  · rw [if_neg a]
    by_cases b : uN x = uN y
    · rw [if_pos b]; exact ⟨fun h => absurd h (by decide), fun h => absurd h a⟩
    · rw [if_neg b]; exact ⟨fun h => absurd h (by decide), fun h => absurd h a⟩
theorem cU_gt (x y : Int64) : 0 < g_Lg_compareUnsigned x y ↔ uN y < uN x := by
  rw [cU_spec]
  by_cases a : uN x < uN y
  · rw [if_pos a]; exact ⟨fun h => absurd h (by decide), fun h => absurd a (by omega)⟩
  · rw [if_neg a]
    by_cases b : uN x = uN y
    · rw [if_pos b]; exact ⟨fun h => absurd h (by decide), fun h => absurd b (by omega)⟩
    · rw [if_neg b]; exact ⟨fun _ => by omega, fun _ => by decide⟩
theorem cU_eq (x y : Int64) : g_Lg_compareUnsigned x y = 0 ↔ uN x = uN y := by
  rw [cU_spec]
  by_cases a : uN x < uN y
  · rw [if_pos a]; exact ⟨fun h => absurd h (by decide), fun h => absurd a (by omega)⟩
  · rw [if_neg a]
    by_cases b : uN x = uN y
    · rw [if_pos b]; exact ⟨fun _ => b, fun _ => rfl⟩
    · rw [if_neg b]; exact ⟨fun h => absurd h (by decide), fun h => absurd h b⟩
theorem i32_cmp (r : Int32) : (0 ≤ r ↔ ¬ r < 0) ∧ (r ≤ 0 ↔ ¬ 0 < r) := by
  constructor
  · rw [Int32.le_iff_toInt_le, Int32.lt_iff_toInt_lt]; omega
  · rw [Int32.le_iff_toInt_le, Int32.lt_iff_toInt_lt]; omega
theorem cU_ge (x y : Int64) : 0 ≤ g_Lg_compareUnsigned x y ↔ uN y ≤ uN x := by
  rw [(i32_cmp _).1, cU_lt]; omega
theorem cU_le (x y : Int64) : g_Lg_compareUnsigned x y ≤ 0 ↔ uN x ≤ uN y := by
  rw [(i32_cmp _).2, cU_gt]; omega
theorem reg_in {i : Int32} (h : g_O_isRegister i = true) : vp_in i 8 := by
  rw [vp_in_iff]
  unfold g_O_isRegister at h
  have e0 : (0 : Int32).toInt = 0 := rfl
  have e8 : (8 : Int32).toInt = 8 := rfl
  by_cases h1 : i < 0
  · rw [if_pos h1] at h; cases h
  · rw [if_neg h1] at h
    by_cases h2 : 8 ≤ i
    · rw [if_pos h2] at h; cases h
    · rw [Int32.lt_iff_toInt_lt] at h1
      rw [Int32.le_iff_toInt_le] at h2
      omega
theorem lrun_end {S : Type} (nx : S → Option S) (μ : S → Nat) (hd : ∀ v w, nx v = some w → μ w < μ v) : ∀ (n : Nat) (v : S), μ v ≤ n → nx (lrun nx n v) = none := by
  intro n
  induction n with
  | zero =>
    intro v hv
    rw [lrun_zero]
    cases h : nx v with
    | none => rfl
    | some w => exact absurd (hd v w h) (by omega)
  | succ n ih =>
    intro v hv
    cases h : nx v with
    | none => rw [lrun_none h]; exact h
    | some w => rw [lrun_some h]; exact ih w (by have := hd v w h; omega)
theorem i32_add1 {i : Int32} (h : i.toInt < 2147483647) : (i + 1).toInt = i.toInt + 1 := by
  have h1 : -2147483648 ≤ i.toInt := Int32.le_toInt i
  rw [Int32.toInt_add, show (1 : Int32).toInt = 1 from rfl]
  exact Int.bmod_eq_of_le (by omega) (by omega)
theorem i32_sub1 {i : Int32} (h : -2147483648 < i.toInt) : (i + (-1)).toInt = i.toInt - 1 := by
  have h1 : i.toInt < 2147483648 := Int32.toInt_lt i
  rw [Int32.toInt_add, show (-1 : Int32).toInt = -1 from rfl]
  rw [Int.bmod_eq_of_le (by omega) (by omega)]
  rfl
theorem S_normalize_end (hi lo : Int64) (ex : Int32) : nx_S_normalize_17 (lrun nx_S_normalize_17 128 (0, hi, lo, ex)) = none := by
  refine lrun_end _ (fun v => (128 - v.1.toInt).toNat) ?_ _ _ ?_
  · intro v w h
    unfold nx_S_normalize_17 at h
    by_cases c1 : 128 ≤ v.1
    · rw [if_pos c1] at h; cases h
    · rw [if_neg c1] at h
      by_cases c2 : v.2.1 < 0
      · rw [if_pos c2] at h; cases h
      · rw [if_neg c2] at h
        cases h
        rw [Int32.le_iff_toInt_le] at c1
        have e : (128 : Int32).toInt = 128 := rfl
        show (128 - (v.1 + 1).toInt).toNat < (128 - v.1.toInt).toNat
        rw [i32_add1 (by omega)]
        omega
  · show (128 - (0 : Int32).toInt).toNat ≤ 128
    decide
theorem min128 (i : Int32) : (if 128 < i then 128 else i : Int32).toInt ≤ 128 := by
  have e : (128 : Int32).toInt = 128 := rfl
  by_cases h : 128 < i
  · rw [if_pos h]; decide
  · rw [if_neg h]
    rw [Int32.lt_iff_toInt_lt] at h
    omega
theorem S_shiftRight_end (ipl : Int32) (hi lo : Int64) : nx_S_shiftRight_10 ipl (lrun (nx_S_shiftRight_10 ipl) 128 (0, hi, lo)) = none := by
  have hm := min128 ipl
  refine lrun_end _ (fun v => ((if 128 < ipl then 128 else ipl : Int32).toInt - v.1.toInt).toNat) ?_ _ _ ?_
  · intro v w h
    unfold nx_S_shiftRight_10 at h
    generalize (if 128 < ipl then 128 else ipl : Int32) = bd at *
    by_cases c1 : bd ≤ v.1
    · rw [if_pos c1] at h; cases h
    · rw [if_neg c1] at h
      cases h
      rw [Int32.le_iff_toInt_le] at c1
      show (bd.toInt - (v.1 + 1).toInt).toNat < (bd.toInt - v.1.toInt).toNat
      rw [i32_add1 (by omega)]
      omega
  · show ((if 128 < ipl then 128 else ipl : Int32).toInt - (0 : Int32).toInt).toNat ≤ 128
    have e : (0 : Int32).toInt = 0 := rfl
    omega
theorem S_divide_end (hi2 hi : Int64) : nx_S_divide_21 hi2 (lrun (nx_S_divide_21 hi2) 128 (hi, false, 0, 0, 0)) = none := by
  refine lrun_end _ (fun v => (128 - v.2.2.1.toInt).toNat) ?_ _ _ ?_
  · intro v w h
    unfold nx_S_divide_21 at h
    by_cases c1 : 128 ≤ v.2.2.1
    · rw [if_pos c1] at h; cases h
    · rw [if_neg c1] at h
      cases h
      rw [Int32.le_iff_toInt_le] at c1
      have e : (128 : Int32).toInt = 128 := rfl
      show (128 - (v.2.2.1 + 1).toInt).toNat < (128 - v.2.2.1.toInt).toNat
      rw [i32_add1 (by omega)]
      omega
  · show (128 - (0 : Int32).toInt).toNat ≤ 128
    decide
theorem S_takeRoot_end (hi : Int64) (ex : Int32) (j lo : Int64) : nx_S_takeRoot_46 hi ex j (lrun (nx_S_takeRoot_46 hi ex j) 64 (0, 63, hi, lo)) = none := by
  refine lrun_end _ (fun v => (v.2.1.toInt + 1).toNat) ?_ _ _ ?_
  · intro v w h
    unfold nx_S_takeRoot_46 at h
    by_cases c1 : v.2.1 < 0
    · rw [if_pos c1] at h; cases h
    · rw [if_neg c1] at h
      cases h
      rw [Int32.lt_iff_toInt_lt] at c1
      have e : (0 : Int32).toInt = 0 := rfl
      show ((v.2.1 + (-1)).toInt + 1).toNat < (v.2.1.toInt + 1).toNat
      rw [i32_sub1 (by omega)]
      omega
  · show ((63 : Int32).toInt + 1).toNat ≤ 64
    decide
/-! Own pure rows for the reference: rooms, places, and that its loops end. -/
def okz (z : Int32) : Prop := 0 ≤ z.toInt ∧ z.toInt ≤ 33000
def okp (f : Nat → Int32) : Prop := (0 ≤ (f 0).toInt ∧ (f 0).toInt ≤ 32767) ∧ 0 ≤ (f 1).toInt ∧ (f 1).toInt ≤ 32767
def okt (f : Nat → Int32) : Prop := ∀ k, k < 8 → 0 ≤ (f k).toInt ∧ (f k).toInt ≤ 65535
theorem b2i_inj {a b : Bool} (h : b2i a = b2i b) : a = b := by
  cases a <;> cases b <;> first | rfl | exact absurd h (by decide)
theorem in2_0 : vp_in 0 2 := by rw [vp_in_iff]; decide
theorem in2_1 : vp_in 1 2 := by rw [vp_in_iff]; decide
theorem in2_b (b : Bool) : vp_in (b2i b) 2 := by
  cases b
  · exact in2_0
  · exact in2_1
theorem in2_nb (b : Bool) : vp_in (1 - b2i b) 2 := by
  cases b
  · exact in2_1
  · exact in2_0
theorem i32_add {a b : Int32} (h1 : -2147483648 ≤ a.toInt + b.toInt) (h2 : a.toInt + b.toInt < 2147483648) : (a + b).toInt = a.toInt + b.toInt := by
  rw [Int32.toInt_add]
  exact Int.bmod_eq_of_le (by omega) (by omega)
theorem i32_sub {a b : Int32} (h1 : -2147483648 ≤ a.toInt - b.toInt) (h2 : a.toInt - b.toInt < 2147483648) : (a - b).toInt = a.toInt - b.toInt := by
  rw [Int32.toInt_sub]
  exact Int.bmod_eq_of_le (by omega) (by omega)
theorem i32_mul {a b : Int32} (h1 : -2147483648 ≤ a.toInt * b.toInt) (h2 : a.toInt * b.toInt < 2147483648) : (a * b).toInt = a.toInt * b.toInt := by
  rw [Int32.toInt_mul]
  exact Int.bmod_eq_of_le (by omega) (by omega)
theorem M_reg {r : Int32} (h : ¬ g_M_none r = true) : vp_in r 8 := by
  rw [vp_in_iff]
  unfold g_M_none at h
  have e0 : (0 : Int32).toInt = 0 := rfl
  have e7 : (7 : Int32).toInt = 7 := rfl
  by_cases h1 : r < 0
  · rw [if_pos h1] at h; exact absurd rfl h
  · rw [if_neg h1] at h
    by_cases h2 : r ≤ 7
    · rw [Int32.lt_iff_toInt_lt] at h1
      rw [Int32.le_iff_toInt_le] at h2
      omega
    · rw [if_neg h2] at h; exact absurd rfl h
theorem row_in {i z : Int32} (h1 : ¬ i < 0) (h2 : ¬ z ≤ i) (hz : okz z) : vp_in i 33000 := by
  rw [vp_in_iff]
  rw [Int32.lt_iff_toInt_lt] at h1
  rw [Int32.le_iff_toInt_le] at h2
  have e0 : (0 : Int32).toInt = 0 := rfl
  obtain ⟨a, b⟩ := hz
  omega
theorem row_in2 {i z : Int32} (h1 : ¬ i < 0) (h2 : i.toInt < z.toInt) (hz : okz z) : vp_in i 33000 := by
  rw [vp_in_iff]
  rw [Int32.lt_iff_toInt_lt] at h1
  have e0 : (0 : Int32).toInt = 0 := rfl
  obtain ⟨a, b⟩ := hz
  omega
theorem row_in3 {i z : Int32} (h1 : 0 ≤ i.toInt) (h2 : ¬ z ≤ i) (hz : okz z) : vp_in i 33000 := by
  rw [vp_in_iff]
  rw [Int32.le_iff_toInt_le] at h2
  obtain ⟨a, b⟩ := hz
  omega
theorem inc_nn {i z : Int32} (h1 : 0 ≤ i.toInt) (h2 : ¬ z ≤ i) (hz : okz z) : 0 ≤ (i + 1).toInt := by
  rw [Int32.le_iff_toInt_le] at h2
  obtain ⟨a, b⟩ := hz
  rw [i32_add1 (by omega)]
  omega
theorem inc64 {i : Int32} (h1 : 0 ≤ i.toInt) (h2 : ¬ 64 ≤ i) : 0 ≤ (i + 1).toInt := by
  rw [Int32.le_iff_toInt_le] at h2
  have e : (64 : Int32).toInt = 64 := rfl
  rw [i32_add1 (by omega)]
  omega
theorem dec_le {i : Int32} {n : Int} (h1 : ¬ i < 0) (h2 : i.toInt ≤ n) : (i + (-1)).toInt ≤ n := by
  rw [Int32.lt_iff_toInt_lt] at h1
  have e0 : (0 : Int32).toInt = 0 := rfl
  rw [i32_sub1 (by omega)]
  omega
theorem q_in {i : Int32} (h1 : ¬ i < 0) (h2 : i.toInt ≤ 199) : vp_in i 33000 := by
  rw [vp_in_iff]
  rw [Int32.lt_iff_toInt_lt] at h1
  have e0 : (0 : Int32).toInt = 0 := rfl
  omega
theorem r_in {i : Int32} (h1 : ¬ i < 0) (h2 : i.toInt ≤ 103) : vp_in i 33000 := by
  rw [vp_in_iff]
  rw [Int32.lt_iff_toInt_lt] at h1
  have e0 : (0 : Int32).toInt = 0 := rfl
  omega
theorem M_high0 {z : Int32} (hz : okz z) : (z - 1).toInt < z.toInt := by
  obtain ⟨a, b⟩ := hz
  have e : (1 : Int32).toInt = 1 := rfl
  rw [i32_sub (by omega) (by omega)]
  omega
theorem M_high1 {v : Int32} {n : Int} (h1 : ¬ v < 0) (h2 : v.toInt < n) : (v + (-1)).toInt < n := by
  rw [Int32.lt_iff_toInt_lt] at h1
  have e0 : (0 : Int32).toInt = 0 := rfl
  rw [i32_sub1 (by omega)]
  omega
theorem okz_130 : okz 130 := by unfold okz; decide
theorem okz_200 : okz 200 := by unfold okz; decide
theorem okz_104 : okz 104 := by unfold okz; decide
theorem M_highest_end (rw' : Nat → Bool) (z : Int32) (hz : okz z) : nx_M_highest_7 rw' (lrun (nx_M_highest_7 rw') 33000 (z - 1)) = none := by
  refine lrun_end _ (fun v : Int32 => (v.toInt + 1).toNat) ?_ _ _ ?_
  · intro v w h
    unfold nx_M_highest_7 at h
    by_cases c1 : v < 0
    · rw [if_pos c1] at h; cases h
    · rw [if_neg c1] at h
      by_cases c2 : rw' v.toNatClampNeg = true
      · rw [if_pos c2] at h; cases h
      · rw [if_neg c2] at h
        obtain rfl := Option.some.inj h
        rw [Int32.lt_iff_toInt_lt] at c1
        have e : (0 : Int32).toInt = 0 := rfl
        show ((v + (-1)).toInt + 1).toNat < (v.toInt + 1).toNat
        rw [i32_sub1 (by omega)]
        omega
  · obtain ⟨a, b⟩ := hz
    have e : (1 : Int32).toInt = 1 := rfl
    show ((z - 1).toInt + 1).toNat ≤ 33000
    rw [i32_sub (by omega) (by omega)]
    omega
theorem M_rest_end (rw' : Nat → Bool) (z ii : Int32) (mo : Bool) (hz : okz z) : nx_M_rest_7 z rw' ii (lrun (nx_M_rest_7 z rw' ii) 33000 (mo, 0)) = none := by
  obtain ⟨a, b⟩ := hz
  refine lrun_end _ (fun v : Bool × Int32 => (z.toInt - v.2.toInt).toNat) ?_ _ _ ?_
  · intro v w h
    unfold nx_M_rest_7 at h
    by_cases c1 : ii ≤ v.2
    · rw [if_pos c1] at h; cases h
    · rw [if_neg c1] at h
      by_cases c2 : z ≤ v.2
      · rw [if_pos c2] at h; cases h
      · rw [if_neg c2] at h
        cases h
        rw [Int32.le_iff_toInt_le] at c2
        show (z.toInt - (v.2 + 1).toInt).toNat < (z.toInt - v.2.toInt).toNat
        rw [i32_add1 (by omega)]
        omega
  · show (z.toInt - (0 : Int32).toInt).toNat ≤ 33000
    have e : (0 : Int32).toInt = 0 := rfl
    omega
theorem M_times_end (sz1 un : Int32) (rw' : Nat → Bool) (iq : Int32) : nx_M_times_14 sz1 un rw' iq (lrun (nx_M_times_14 sz1 un rw' iq) 64 (0, 63)) = none := by
  refine lrun_end _ (fun v : Int64 × Int32 => (v.2.toInt + 1).toNat) ?_ _ _ ?_
  · intro v w h
    unfold nx_M_times_14 at h
    by_cases c1 : v.2 < 0
    · rw [if_pos c1] at h; cases h
    · rw [if_neg c1] at h
      cases h
      rw [Int32.lt_iff_toInt_lt] at c1
      have e : (0 : Int32).toInt = 0 := rfl
      show ((v.2 + (-1)).toInt + 1).toNat < (v.2.toInt + 1).toNat
      rw [i32_sub1 (by omega)]
      omega
  · show ((63 : Int32).toInt + 1).toNat ≤ 64
    decide
theorem M_empty_end (inn : Int32) (rw' : Nat → Bool) (hn : okz inn) : nx_M_empty_17 inn (lrun (nx_M_empty_17 inn) 33000 (0, rw')) = none := by
  obtain ⟨a, b⟩ := hn
  refine lrun_end _ (fun v : Int32 × (Nat → Bool) => (inn.toInt - v.1.toInt).toNat) ?_ _ _ ?_
  · intro v w h
    unfold nx_M_empty_17 at h
    by_cases c1 : inn ≤ v.1
    · rw [if_pos c1] at h; cases h
    · rw [if_neg c1] at h
      cases h
      rw [Int32.le_iff_toInt_le] at c1
      show (inn.toInt - (v.1 + 1).toInt).toNat < (inn.toInt - v.1.toInt).toNat
      rw [i32_add1 (by omega)]
      omega
  · show (inn.toInt - (0 : Int32).toInt).toNat ≤ 33000
    have e : (0 : Int32).toInt = 0 := rfl
    omega
theorem M_join_end (sz1 : Int32) (jf : Int64) (ipl : Int32) (ba : Bool) (rw' : Nat → Bool) (hz : okz sz1) (hpl : 0 ≤ ipl.toInt) : nx_M_join_6 sz1 jf ipl ba (lrun (nx_M_join_6 sz1 jf ipl ba) 33000 (false, ipl, rw')) = none := by
  obtain ⟨a, b⟩ := hz
  refine lrun_end _ (fun v : Bool × Int32 × (Nat → Bool) => (sz1.toInt - v.2.1.toInt).toNat) ?_ _ _ ?_
  · intro v w h
    unfold nx_M_join_6 at h
    by_cases c1 : sz1 ≤ v.2.1
    · rw [if_pos c1] at h; cases h
    · rw [if_neg c1] at h
      cases h
      rw [Int32.le_iff_toInt_le] at c1
      show (sz1.toInt - (v.2.1 + 1).toInt).toNat < (sz1.toInt - v.2.1.toInt).toNat
      rw [i32_add1 (by omega)]
      omega
  · show (sz1.toInt - ipl.toInt).toNat ≤ 33000
    omega
theorem unit0 {pw : Nat → Int32} (h : okp pw) : -16445 ≤ (g_M_unitOf pw 0).toInt ∧ (g_M_unitOf pw 0).toInt ≤ 16321 := by
  obtain ⟨⟨a, b⟩, -⟩ := h
  unfold g_M_unitOf
  have e : (16446 : Int32).toInt = 16446 := rfl
  have e1 : (1 : Int32).toInt = 1 := rfl
  show -16445 ≤ ((if pw 0 = 0 then 1 else pw 0) - 16446 : Int32).toInt ∧ ((if pw 0 = 0 then 1 else pw 0) - 16446 : Int32).toInt ≤ 16321
  by_cases c : pw 0 = 0
  · rw [if_pos c]; decide
  · rw [if_neg c]
    have c' : (pw 0).toInt ≠ 0 := fun q => c (Int32.toInt_inj.mp (q.trans rfl))
    rw [i32_sub (by omega) (by omega)]
    omega
theorem unit1 {pw : Nat → Int32} (h : okp pw) : -16445 ≤ (g_M_unitOf pw 1).toInt ∧ (g_M_unitOf pw 1).toInt ≤ 16321 := by
  obtain ⟨-, a, b⟩ := h
  unfold g_M_unitOf
  have e : (16446 : Int32).toInt = 16446 := rfl
  have e1 : (1 : Int32).toInt = 1 := rfl
  show -16445 ≤ ((if pw 1 = 0 then 1 else pw 1) - 16446 : Int32).toInt ∧ ((if pw 1 = 0 then 1 else pw 1) - 16446 : Int32).toInt ≤ 16321
  by_cases c : pw 1 = 0
  · rw [if_pos c]; decide
  · rw [if_neg c]
    have c' : (pw 1).toInt ≠ 0 := fun q => c (Int32.toInt_inj.mp (q.trans rfl))
    rw [i32_sub (by omega) (by omega)]
    omega
theorem low_is {u0 u1 j : Int32} (e : j = (if u1 ≤ u0 then u1 else u0)) : j.toInt = min u0.toInt u1.toInt := by
  rw [e]
  by_cases c : u1 ≤ u0
  · rw [if_pos c]
    rw [Int32.le_iff_toInt_le] at c
    omega
  · rw [if_neg c]
    rw [Int32.le_iff_toInt_le] at c
    omega
theorem sum_room {pw : Nat → Int32} {j : Int32} (hpw : okp pw) (e : j = (if (g_M_unitOf pw 1) ≤ (g_M_unitOf pw 0) then (g_M_unitOf pw 1) else (g_M_unitOf pw 0))) : okz ((((g_M_unitOf pw 0) + (g_M_unitOf pw 1)) - (2 * j)) + 66) := by
  have h0 := unit0 hpw
  have h1 := unit1 hpw
  have hj := low_is e
  have e2 : (2 : Int32).toInt = 2 := rfl
  have e66 : (66 : Int32).toInt = 66 := rfl
  have m2 : (2 * j).toInt = 2 * j.toInt := by rw [i32_mul (by rw [e2]; omega) (by rw [e2]; omega), e2]
  have a1 : ((g_M_unitOf pw 0) + (g_M_unitOf pw 1)).toInt = (g_M_unitOf pw 0).toInt + (g_M_unitOf pw 1).toInt := i32_add (by omega) (by omega)
  have a2 : (((g_M_unitOf pw 0) + (g_M_unitOf pw 1)) - (2 * j)).toInt = (g_M_unitOf pw 0).toInt + (g_M_unitOf pw 1).toInt - 2 * j.toInt := by rw [i32_sub (by omega) (by omega), a1, m2]
  unfold okz
  rw [i32_add (by omega) (by omega), a2, e66]
  omega
theorem sum_place {pw : Nat → Int32} {j : Int32} (hpw : okp pw) (e : j = (if (g_M_unitOf pw 1) ≤ (g_M_unitOf pw 0) then (g_M_unitOf pw 1) else (g_M_unitOf pw 0))) (b : Bool) : 0 ≤ ((g_M_unitOf pw (b2i b)) - j).toInt := by
  have h0 := unit0 hpw
  have h1 := unit1 hpw
  have hj := low_is e
  cases b
  · show 0 ≤ ((g_M_unitOf pw 0) - j).toInt
    rw [i32_sub (by omega) (by omega)]
    omega
  · show 0 ≤ ((g_M_unitOf pw 1) - j).toInt
    rw [i32_sub (by omega) (by omega)]
    omega
theorem sum_place2 {pw : Nat → Int32} {j : Int32} (hpw : okp pw) (e : j = (if (g_M_unitOf pw 1) ≤ (g_M_unitOf pw 0) then (g_M_unitOf pw 1) else (g_M_unitOf pw 0))) (b : Bool) : 0 ≤ ((g_M_unitOf pw (1 - (b2i b))) - j).toInt := by
  have h0 := unit0 hpw
  have h1 := unit1 hpw
  have hj := low_is e
  cases b
  · show 0 ≤ ((g_M_unitOf pw 1) - j).toInt
    rw [i32_sub (by omega) (by omega)]
    omega
  · show 0 ≤ ((g_M_unitOf pw 0) - j).toInt
    rw [i32_sub (by omega) (by omega)]
    omega
theorem M_isLess_end (pw : Nat → Int32) (pt : Nat → Int64) (j : Int32) (hpw : okp pw) (e : j = (if (g_M_unitOf pw 1) ≤ (g_M_unitOf pw 0) then (g_M_unitOf pw 1) else (g_M_unitOf pw 0))) : nx_M_isLess_49 pw pt j (lrun (nx_M_isLess_49 pw pt j) 33000 (false, 0)) = none := by
  have h0 := unit0 hpw
  have h1 := unit1 hpw
  have hj := low_is e
  have d0 : ((g_M_unitOf pw 0) - j).toInt = (g_M_unitOf pw 0).toInt - j.toInt := i32_sub (by omega) (by omega)
  have d1 : ((g_M_unitOf pw 1) - j).toInt = (g_M_unitOf pw 1).toInt - j.toInt := i32_sub (by omega) (by omega)
  have hb : ∃ b : Int32, b = (if ((g_M_unitOf pw 1) - j) ≤ ((g_M_unitOf pw 0) - j) then ((g_M_unitOf pw 0) - j) else ((g_M_unitOf pw 1) - j)) ∧ 0 ≤ b.toInt ∧ b.toInt ≤ 32767 := by
    refine ⟨_, rfl, ?_⟩
    by_cases c : ((g_M_unitOf pw 1) - j) ≤ ((g_M_unitOf pw 0) - j)
    · rw [if_pos c]; omega
    · rw [if_neg c]; omega
  obtain ⟨b, eb, b0, b1⟩ := hb
  have e64 : (64 : Int32).toInt = 64 := rfl
  have b64 : (b + 64).toInt = b.toInt + 64 := by rw [i32_add (by omega) (by omega), e64]
  refine lrun_end _ (fun v : Bool × Int32 => ((b + 64).toInt - v.2.toInt).toNat) ?_ _ _ ?_
  · intro v w h
    unfold nx_M_isLess_49 at h
    rw [← eb] at h
    dsimp only at h
    by_cases c1 : b + 64 ≤ v.2
    · rw [if_pos c1] at h; cases h
    · rw [if_neg c1] at h
      cases h
      rw [Int32.le_iff_toInt_le] at c1
      show ((b + 64).toInt - (v.2 + 1).toInt).toNat < ((b + 64).toInt - v.2.toInt).toNat
      rw [i32_add1 (by omega)]
      omega
  · show ((b + 64).toInt - (0 : Int32).toInt).toNat ≤ 33000
    have e : (0 : Int32).toInt = 0 := rfl
    omega
theorem M_product_end (pt : Nat → Int64) (r : Nat → Bool) : nx_M_product_20 pt (lrun (nx_M_product_20 pt) 64 (0, r)) = none := by
  refine lrun_end _ (fun v : Int32 × (Nat → Bool) => (64 - v.1.toInt).toNat) ?_ _ _ ?_
  · intro v w h
    unfold nx_M_product_20 at h
    by_cases c1 : 64 ≤ v.1
    · rw [if_pos c1] at h; cases h
    · rw [if_neg c1] at h
      cases h
      rw [Int32.le_iff_toInt_le] at c1
      have e : (64 : Int32).toInt = 64 := rfl
      show (64 - (v.1 + 1).toInt).toNat < (64 - v.1.toInt).toNat
      rw [i32_add1 (by omega)]
      omega
  · show (64 - (0 : Int32).toInt).toNat ≤ 64
    decide
theorem M_quotient_end (pt : Nat → Int64) (r : Nat → Bool) : nx_M_quotient_45 pt (lrun (nx_M_quotient_45 pt) 200 (0, 199, r)) = none := by
  refine lrun_end _ (fun v : Int64 × Int32 × (Nat → Bool) => (v.2.1.toInt + 1).toNat) ?_ _ _ ?_
  · intro v w h
    unfold nx_M_quotient_45 at h
    by_cases c1 : v.2.1 < 0
    · rw [if_pos c1] at h; cases h
    · rw [if_neg c1] at h
      cases h
      rw [Int32.lt_iff_toInt_lt] at c1
      have e : (0 : Int32).toInt = 0 := rfl
      show ((v.2.1 + (-1)).toInt + 1).toNat < (v.2.1.toInt + 1).toNat
      rw [i32_sub1 (by omega)]
      omega
  · show ((199 : Int32).toInt + 1).toNat ≤ 200
    decide
theorem M_root2_end (pt : Nat → Int64) (j : Bool) (k : Int32) : nx_M_root_90 pt j k (lrun (nx_M_root_90 pt j k) 2 (0, 1)) = none := by
  refine lrun_end _ (fun v : Int32 × Int32 => (v.2.toInt + 1).toNat) ?_ _ _ ?_
  · intro v w h
    unfold nx_M_root_90 at h
    by_cases c1 : v.2 < 0
    · rw [if_pos c1] at h; cases h
    · rw [if_neg c1] at h
      cases h
      rw [Int32.lt_iff_toInt_lt] at c1
      have e : (0 : Int32).toInt = 0 := rfl
      show ((v.2 + (-1)).toInt + 1).toNat < (v.2.toInt + 1).toNat
      rw [i32_sub1 (by omega)]
      omega
  · show ((1 : Int32).toInt + 1).toNat ≤ 2
    decide
theorem M_root_end (pt : Nat → Int64) (j : Bool) (r : Nat → Bool) : nx_M_root_79 pt j (lrun (nx_M_root_79 pt j) 104 (0, 0, 0, 0, 103, r)) = none := by
  refine lrun_end _ (fun v : Int64 × Int64 × Int64 × Int64 × Int32 × (Nat → Bool) => (v.2.2.2.2.1.toInt + 1).toNat) ?_ _ _ ?_
  · intro v w h
    unfold nx_M_root_79 at h
    by_cases c1 : v.2.2.2.2.1 < 0
    · rw [if_pos c1] at h; cases h
    · rw [if_neg c1] at h
      cases h
      rw [Int32.lt_iff_toInt_lt] at c1
      have e : (0 : Int32).toInt = 0 := rfl
      show ((v.2.2.2.2.1 + (-1)).toInt + 1).toNat < (v.2.2.2.2.1.toInt + 1).toNat
      rw [i32_sub1 (by omega)]
      omega
  · show ((103 : Int32).toInt + 1).toNat ≤ 104
    decide
theorem rem_rng {t : Int32} (h0 : 0 ≤ t.toInt) : 0 ≤ (t - t / 32768 * 32768).toInt ∧ (t - t / 32768 * 32768).toInt ≤ 32767 := by
  have e : (32768 : Int32).toInt = 32768 := rfl
  rw [rem_toInt, e, Int.tmod_eq_emod_of_nonneg h0]
  omega
theorem okp_two {mT : Nat → Int32} {mF : Nat → Int64} {mi z1 : Nat → Bool} {pw : Nat → Int32} {pt z3 : Nat → Int64} {r1 r2 : Int32} (ht : okt mT) (h1 : vp_in r1 8) (h2 : vp_in r2 8) :
    okp (g_M_take mT mF z1 (g_M_take mT mF mi pw pt 0 r1).2.1 z3 1 r2).2.1 := by
  obtain ⟨a, ha, rfl⟩ := vp_in_of h1 (by decide)
  obtain ⟨b, hb, rfl⟩ := vp_in_of h2 (by decide)
  have ka := (ht a ha).1
  have kb := (ht b hb).1
  have qa : (nI a).toNatClampNeg = a := nI_clamp (by omega)
  have qb : (nI b).toNatClampNeg = b := nI_clamp (by omega)
  unfold g_M_take
  dsimp only
  rw [qa, qb]
  exact ⟨rem_rng ka, rem_rng kb⟩
theorem okp_take {mT : Nat → Int32} {mF : Nat → Int64} {mi : Nat → Bool} {pw j : Nat → Int32} {pt : Nat → Int64} {iop ia ib : Int32} (ht : okt mT) (ha : vp_in ia 8) (hb : vp_in ib 8)
    (e : j = (if iop = 2 then let z83 : (Nat → Bool) × (Nat → Int32) × (Nat → Int64) := g_M_take mT mF mi pw pt 0 ib; (let z98 : (Nat → Bool) × (Nat → Int32) × (Nat → Int64) := g_M_take mT mF z83.1 z83.2.1 z83.2.2 1 ia; (z98.2.1)) else if iop = 5 then let z83 : (Nat → Bool) × (Nat → Int32) × (Nat → Int64) := g_M_take mT mF mi pw pt 0 ib; (let z98 : (Nat → Bool) × (Nat → Int32) × (Nat → Int64) := g_M_take mT mF z83.1 z83.2.1 z83.2.2 1 ia; (z98.2.1)) else let z83 : (Nat → Bool) × (Nat → Int32) × (Nat → Int64) := g_M_take mT mF mi pw pt 0 ia; (let z98 : (Nat → Bool) × (Nat → Int32) × (Nat → Int64) := g_M_take mT mF z83.1 z83.2.1 z83.2.2 1 ib; (z98.2.1)))) : okp j := by
  rw [e]
  dsimp only
  by_cases c : iop = 2
  · rw [if_pos c]; exact okp_two ht hb ha
  · rw [if_neg c]
    by_cases d : iop = 5
    · rw [if_pos d]; exact okp_two ht hb ha
    · rw [if_neg d]; exact okp_two ht ha hb
theorem and1_lsb (y : Int64) : ((y &&& 1) = 0) ↔ y.toBitVec.getLsbD 0 = false := by
  rw [uN_bit]
  have h : y.toBitVec.getLsbD 0 = decide (uN y % 2 = 1) := by
    show (uN y).testBit 0 = _
    rw [Nat.testBit_zero]
  rw [h, decide_eq_false_iff_not]
  omega
theorem sh_tab : ∀ d, d < 64 → (((nI d).toInt64 &&& 63).toBitVec.smod 64).toNat = d := by decide +kernel
theorem aR_tb (x : Int64) {d : Nat} (hd : d < 64) : (aR x (nI d)).toBitVec = x.toBitVec.sshiftRight d := by
  unfold aR
  rw [Int64.toBitVec_shiftRight]
  unfold BitVec.sshiftRight'
  rw [sh_tab d hd]
theorem aR_bit (x : Int64) {d : Nat} (hd : d < 64) : ((aR x (nI d)) &&& 1 = 0) ↔ x.toBitVec.getLsbD d = false := by
  rw [and1_lsb, aR_tb x hd, BitVec.getLsbD_sshiftRight]
  simp [hd]
theorem bit_of_ne {x : Int64} (h : ¬ x = 0) : ∃ d, d < 64 ∧ x.toBitVec.getLsbD d = true := by
  by_cases q : ∃ d, d < 64 ∧ x.toBitVec.getLsbD d = true
  · exact q
  · refine absurd ?_ h
    have e : x.toBitVec = 0#64 := by
      apply BitVec.eq_of_getLsbD_eq
      intro i hi
      rw [BitVec.getLsbD_zero]
      cases g : x.toBitVec.getLsbD i
      · rfl
      · exact absurd ⟨i, hi, g⟩ q
    exact Int64.toBitVec_inj.mp (e.trans rfl)
theorem M_put_down (jw : Int64) : ∀ n, n ≤ 64 → (∃ d, d < n ∧ jw.toBitVec.getLsbD d = true) → nx_M_put_32 jw (lrun (nx_M_put_32 jw) n (nI n + (-1))) = none := by
  intro n
  induction n with
  | zero => intro _ ⟨d, h, _⟩; omega
  | succ n ih =>
    intro hn ⟨d, hd, hb⟩
    rw [pk_m1]
    by_cases c : (aR jw (nI n)) &&& 1 = 0
    · have e : nx_M_put_32 jw (nI n) = some (nI n + (-1)) := by unfold nx_M_put_32; rw [if_pos c]
      rw [lrun_some e]
      refine ih (by omega) ⟨d, ?_, hb⟩
      rw [aR_bit jw (by omega)] at c
      rcases Nat.lt_or_ge d n with q | q
      · exact q
      · have : d = n := by omega
        rw [this, c] at hb
        cases hb
    · have e : nx_M_put_32 jw (nI n) = none := by unfold nx_M_put_32; rw [if_neg c]
      rw [lrun_none e]
      exact e
theorem M_put_end (jw : Int64) (h : ¬ jw = 0) : nx_M_put_32 jw (lrun (nx_M_put_32 jw) 64 63) = none := M_put_down jw 64 (Nat.le_refl 64) (bit_of_ne h)
theorem x_control_ne1 (iw : Int32) : ¬ x_O_control iw = 1 := by
  unfold x_O_control
  by_cases c : g_O_hasSixteenBits iw = true
  · rw [if_pos c]; decide
  · rw [if_neg c]; decide
theorem nn_0 : 0 ≤ (0 : Int32).toInt := by decide
theorem le_199 : (199 : Int32).toInt ≤ 199 := by decide
theorem le_103 : (103 : Int32).toInt ≤ 103 := by decide

