/-! Pure rows, 13: the class's root; halves of whole numbers with a sign. -/
theorem i32_half {x : Int32} (h1 : -1000000 ≤ x.toInt) (h2 : x.toInt ≤ 1000000) : (x.toInt % 2 = 0 → (x / 2).toInt = x.toInt / 2) ∧ ((x - x / 2 * 2 = 0) ↔ x.toInt % 2 = 0) := by
  have e2 : (2 : Int32).toInt = 2 := rfl
  have n : (x.toInt.tdiv 2).natAbs = x.toInt.natAbs / 2 := Int.natAbs_tdiv _ _
  have t : (x / 2).toInt = x.toInt.tdiv 2 := by
    rw [Int32.toInt_div, e2]
    exact Int.bmod_eq_of_le (by omega) (by omega)
  have ev : x.toInt % 2 = 0 → x.toInt.tdiv 2 = x.toInt / 2 := by
    intro q
    obtain ⟨y, hy⟩ : ∃ y, x.toInt = 2 * y := ⟨x.toInt / 2, by omega⟩
    rw [hy, Int.mul_tdiv_cancel_left y (by decide)]
    omega
  refine ⟨fun q => by rw [t, ev q], ?_⟩
  have m : (x / 2 * 2).toInt = x.toInt.tdiv 2 * 2 := by rw [i32_mul (by rw [t, e2]; omega) (by rw [t, e2]; omega), t, e2]
  have s : (x - x / 2 * 2).toInt = x.toInt - x.toInt.tdiv 2 * 2 := i32S rfl m (by omega) (by omega)
  constructor
  · intro q
    rw [q] at s
    have s : (0 : Int) = x.toInt - x.toInt.tdiv 2 * 2 := s
    omega
  · intro q
    apply Int32.toInt_inj.mp
    rw [s, ev q]
    show _ = (0 : Int)
    omega
theorem i32_and1 (x : Int32) : (x &&& 1) = if x.toInt % 2 = 0 then 0 else 1 := by
  have b : (x &&& 1).toBitVec.toNat = x.toBitVec.toNat % 2 := by
    show (x.toBitVec &&& 1#32).toNat = _
    rw [BitVec.toNat_and]
    exact Nat.and_two_pow_sub_one_eq_mod _ 1
  have i : x.toInt = if 2 * x.toBitVec.toNat < 2 ^ 32 then (x.toBitVec.toNat : Int) else (x.toBitVec.toNat : Int) - (2 ^ 32 : Nat) := BitVec.toInt_eq_toNat_cond _
  have j : x.toInt % 2 = ((x.toBitVec.toNat % 2 : Nat) : Int) := by
    rw [i]
    split <;> omega
  apply Int32.toBitVec_inj.mp
  apply BitVec.eq_of_toNat_eq
  rw [b, j]
  rcases (show x.toBitVec.toNat % 2 = 0 ∨ x.toBitVec.toNat % 2 = 1 by omega) with q | q
  · rw [q]; rfl
  · rw [q]; rfl
theorem V2_sub' {a1 a0 b1 b0 : Int64} (h : V2 b1 b0 ≤ V2 a1 a0) : V2 ((a1 - b1) - ((b2i (if uN b0 ≤ uN a0 then false else true)).toInt64)) (a0 - b0) = V2 a1 a0 - V2 b1 b0 := by
  have l1 := uN_lt a1
  have l2 := uN_lt a0
  have l3 := uN_lt b1
  have l4 := uN_lt b0
  unfold V2 at h ⊢
  rw [p64] at h
  rw [uN_sub, uN_sub, uN_sub, uN_c, p64]
  by_cases c : uN b0 ≤ uN a0
  · rw [if_pos c, if_neg nff]
    omega
  · rw [if_neg c, if_pos ytt]
    omega
theorem above_is (hi lo jh jl : Int64) : g_S_isAbove hi lo jh jl = true ↔ V2 jh jl < V2 hi lo := by
  have l1 := uN_lt hi
  have l2 := uN_lt lo
  have l3 := uN_lt jh
  have l4 := uN_lt jl
  unfold g_S_isAbove V2
  dsimp only
  rw [p64]
  by_cases a : uN jh < uN hi
  · rw [if_pos a]
    exact ⟨fun _ => by omega, fun _ => rfl⟩
  · rw [if_neg a]
    by_cases b : uN hi = uN jh
    · rw [if_pos b]
      by_cases c : uN lo ≤ uN jl
      · rw [if_pos c]
        exact ⟨fun q => absurd q nff, fun q => by omega⟩
      · rw [if_neg c]
        exact ⟨fun _ => by omega, fun _ => rfl⟩
    · rw [if_neg b]
      exact ⟨fun q => absurd q nff, fun q => by omega⟩
theorem dig_is (jr jh jl : Int64) : sTr jr (g_S_digitsBelowRoot jr jh jl) 0 = (uN jr, decide (uN jr < V2 jh jl), decide (V2 jh jl ≠ 0)) := by
  have l1 := uN_lt jr
  have l2 := uN_lt jl
  have A0 : sTr jr 0 0 = (uN jr, false, false) := rfl
  have A1 : sTr jr 1 0 = (uN jr, false, true) := rfl
  have A2 : sTr jr (-9223372036854775807) 0 = (uN jr, true, true) := rfl
  unfold g_S_digitsBelowRoot
  by_cases a : jh = 0
  · rw [if_pos a, if_pos a]
    rw [uN_z] at a
    have v : V2 jh jl = uN jl := by unfold V2; rw [a, Nat.zero_mul, Nat.zero_add]
    rw [v]
    by_cases b : jl = 0
    · rw [if_pos b, A0]
      rw [uN_z] at b
      rw [b]
      rfl
    · rw [if_neg b]
      rw [uN_z] at b
      by_cases c : uN jl ≤ uN jr
      · rw [if_pos c, A1, decide_eq_false (show ¬ uN jr < uN jl by omega), decide_eq_true (show uN jl ≠ 0 from b)]
      · rw [if_neg c, A2, decide_eq_true (show uN jr < uN jl by omega), decide_eq_true (show uN jl ≠ 0 from b)]
  · rw [if_neg a, if_neg a, A2]
    rw [uN_z] at a
    have v : 18446744073709551616 ≤ V2 jh jl := by unfold V2; rw [p64]; omega
    rw [decide_eq_true (show uN jr < V2 jh jl by omega), decide_eq_true (show V2 jh jl ≠ 0 by omega)]
/-- one digit of the class's root -/
theorem root_dig {Sq : Nat} {j : Nat} (hj : j < 64) {r t : Nat} (h1 : r % 2 ^ (j + 1) = 0) (h2 : r * r ≤ Sq) (h3 : Sq < (r + 2 ^ (j + 1)) * (r + 2 ^ (j + 1))) (ht : t = r + 2 ^ j) :
    (Sq < t * t → r % 2 ^ j = 0 ∧ r * r ≤ Sq ∧ Sq < (r + 2 ^ j) * (r + 2 ^ j)) ∧ (¬ Sq < t * t → t % 2 ^ j = 0 ∧ t * t ≤ Sq ∧ Sq < (t + 2 ^ j) * (t + 2 ^ j)) := by
  have e : 2 ^ (j + 1) = 2 ^ j * 2 := Nat.pow_succ _ _
  have r0 : r % 2 ^ j = 0 := by
    have d : 2 ^ j ∣ r := Nat.dvd_trans (by rw [e]; exact Nat.dvd_mul_right _ _) (Nat.dvd_of_mod_eq_zero h1)
    exact Nat.mod_eq_zero_of_dvd d
  constructor
  · intro q
    exact ⟨r0, h2, by rw [← ht]; exact q⟩
  · intro q
    refine ⟨by rw [ht, Nat.add_mod_right]; exact r0, Nat.le_of_not_lt q, ?_⟩
    have e2 : t + 2 ^ j = r + 2 ^ (j + 1) := by rw [ht, e]; omega
    rw [e2]
    exact h3
theorem root_or {r : Int64} {j : Nat} (hj : j < 64) (h : uN r % 2 ^ (j + 1) = 0) : uN (r ||| sL 1 (nI j)) = uN r + 2 ^ j := by
  rw [uN_orN, uN_one hj]
  obtain ⟨a, ha⟩ := Nat.dvd_of_mod_eq_zero h
  rw [ha, Nat.mul_comm]
  exact or_add (Nat.pow_lt_pow_right (by decide) (by omega))
noncomputable def fRt (q1 q0 : Int64) (j : Nat) (r : Int64 × Int64 × Int64) : Int64 × Int64 × Int64 :=
  let z : Int64 × Int64 := g_S_takeProduct (r.1 ||| (sL 1 (nI j))) (r.1 ||| (sL 1 (nI j)))
  ((if (g_S_isAbove z.1 z.2 q1 q0) = true then r.1 else (r.1 ||| (sL 1 (nI j)))), z.1, z.2)
theorem S_root_core {h : Int64} {e : Int32} {q1 q0 : Int64} (e1 : uR h (e &&& 1) = q1) (lo : Int64) : ∃ w : Int64 × Int32 × Int64 × Int64, lrun (nx_S_takeRoot_46 h e q0) 64 (0, 63, h, lo) = w ∧ uN w.1 * uN w.1 ≤ V2 q1 q0 ∧ V2 q1 q0 < (uN w.1 + 1) * (uN w.1 + 1) := by
  have hr : lrun (nx_S_takeRoot_46 h e q0) 64 (0, 63, h, lo) = (fun r : Int64 × Int64 × Int64 => (r.1, nI 0 + (-1), r.2.1, r.2.2)) (iterDn (fRt q1 q0) 64 (0, h, lo)) := by
    refine lrun_dn (nx_S_takeRoot_46 h e q0) (fun j (r : Int64 × Int64 × Int64) => (r.1, nI j + (-1), r.2.1, r.2.2)) (fRt q1 q0) 64 ?_ ?_ 64 (0, h, lo) (Nat.le_refl _) 64 (Nat.le_refl _)
    · intro j r hj
      unfold nx_S_takeRoot_46 fRt
      dsimp only
      rw [pk_m1, if_neg (nI_pos (by omega)), e1]
    · intro r
      unfold nx_S_takeRoot_46
      dsimp only
      rw [if_pos (by decide)]
  have inv := iterDn_inv (fRt q1 q0) (fun j (r : Int64 × Int64 × Int64) => uN r.1 % 2 ^ j = 0 ∧ uN r.1 * uN r.1 ≤ V2 q1 q0 ∧ V2 q1 q0 < (uN r.1 + 2 ^ j) * (uN r.1 + 2 ^ j)) 64 (by
    intro j r hj h
    obtain ⟨a1, a2, a3⟩ := h
    have ho := root_or hj a1
    have sp := S_prod (r.1 ||| sL 1 (nI j)) (r.1 ||| sL 1 (nI j))
    have rd := root_dig hj a1 a2 a3 ho
    have ab := above_is (g_S_takeProduct (r.1 ||| (sL 1 (nI j))) (r.1 ||| (sL 1 (nI j)))).1 (g_S_takeProduct (r.1 ||| (sL 1 (nI j))) (r.1 ||| (sL 1 (nI j)))).2 q1 q0
    rw [sp] at ab
    unfold fRt
    dsimp only
    by_cases c : g_S_isAbove (g_S_takeProduct (r.1 ||| (sL 1 (nI j))) (r.1 ||| (sL 1 (nI j)))).1 (g_S_takeProduct (r.1 ||| (sL 1 (nI j))) (r.1 ||| (sL 1 (nI j)))).2 q1 q0 = true
    · rw [if_pos c]
      exact rd.1 (ab.mp c)
    · rw [if_neg c]
      exact rd.2 (fun q => c (ab.mpr q))) 64 (0, h, lo) (Nat.le_refl _) (by
    have l := V2_lt q1 q0
    have u0 : uN 0 = 0 := rfl
    dsimp only
    rw [u0]
    refine ⟨by decide, Nat.zero_le _, Nat.lt_of_lt_of_le l (by decide)⟩)
  generalize iterDn (fRt q1 q0) 64 (0, h, lo) = w at hr inv
  refine ⟨_, hr, ?_⟩
  dsimp only
  exact ⟨inv.2.1, inv.2.2⟩
theorem sq_hi {F Sq : Nat} (h : Sq < (F + 1) * (F + 1)) (g : 2 ^ 126 ≤ Sq) : 2 ^ 63 ≤ F := by
  apply Classical.byContradiction
  intro q
  have l : F + 1 ≤ 2 ^ 63 := by omega
  have := Nat.mul_le_mul l l
  have e : (2 : Nat) ^ 63 * 2 ^ 63 = 2 ^ 126 := by decide
  rw [e] at this
  omega
theorem S_root_is {h : Int64} {e : Int32} (hh : 2 ^ 63 ≤ uN h) (b1 : -100000 ≤ e.toInt) (b2 : e.toInt ≤ 100000) :
    ∃ (hi lo : Int64) (ex : Int32) (o Sq : Nat), g_S_takeRoot h 0 e = (hi, lo, ex) ∧ o ≤ 1 ∧ (e.toInt + o) % 2 = 0 ∧ ex.toInt = (e.toInt + o - 64) / 2 ∧ Sq * 2 ^ o = uN h * 2 ^ 64 ∧ 2 ^ 63 ≤ uN hi ∧ uN hi * uN hi ≤ Sq ∧ Sq < (uN hi + 1) * (uN hi + 1) ∧ sTr hi lo 0 = (uN hi, decide (uN hi < Sq - uN hi * uN hi), decide (Sq - uN hi * uN hi ≠ 0)) := by
  have lh := uN_lt h
  have hz : ¬ g_S_isZero h 0 = true := isZero_f (by
    intro q
    rw [uN_z] at q
    rw [q] at hh
    exact absurd hh (by decide)) 0
  have ev := i32_and1 e
  -- the square's two words
  obtain ⟨o, ho, ho2, eo, q1, q0, k1, k2, kv⟩ : ∃ o : Nat, o ≤ 1 ∧ (e.toInt + o) % 2 = 0 ∧ (e &&& 1) = nI o ∧ ∃ q1 q0 : Int64, uR h (e &&& 1) = q1 ∧ (if (e &&& 1) = 0 then 0 else (sL h 63)) = q0 ∧ V2 q1 q0 * 2 ^ o = uN h * 2 ^ 64 := by
    by_cases c : e.toInt % 2 = 0
    · rw [if_pos c] at ev
      refine ⟨0, by decide, by omega, ev, uR h (e &&& 1), _, rfl, rfl, ?_⟩
      rw [ev]
      have a1 : uN (uR h 0) = uN h / 2 ^ 0 := uN_uR h (d := 0) (by decide)
      have u0 : uN 0 = 0 := rfl
      unfold V2
      rw [if_pos rfl, a1, u0, Nat.pow_zero, Nat.div_one, Nat.mul_one, Nat.add_zero]
    · rw [if_neg c] at ev
      refine ⟨1, by decide, by omega, ev, uR h (e &&& 1), _, rfl, rfl, ?_⟩
      rw [ev]
      have a1 : uN (uR h 1) = uN h / 2 ^ 1 := uN_uR h (d := 1) (by decide)
      have a2 : uN (sL h 63) = uN h * 2 ^ 63 % 2 ^ 64 := uN_sL h (d := 63) (by decide)
      unfold V2
      rw [if_neg (by decide), a1, a2, p63, p64]
      omega
  obtain ⟨w, hr, w1, w2⟩ := S_root_core (q0 := q0) k1 0
  have ge : 2 ^ 126 ≤ V2 q1 q0 := by
    rw [p63] at hh
    rw [p64] at kv
    rw [p126]
    rcases (show o = 0 ∨ o = 1 by omega) with rfl | rfl
    · rw [Nat.pow_zero] at kv; omega
    · rw [Nat.pow_one] at kv; omega
  have rest := V2_sub' (a1 := q1) (a0 := q0) (b1 := (g_S_takeProduct w.1 w.1).1) (b0 := (g_S_takeProduct w.1 w.1).2) (by rw [S_prod]; exact w1)
  rw [S_prod] at rest
  have x1 : (e + nI o).toInt = e.toInt + o := i32A rfl (nI_toInt (by omega)) (by omega) (by omega)
  have x2 : ((e + nI o) - 64).toInt = e.toInt + o - 64 := i32S x1 rfl (by omega) (by omega)
  have x3 : (((e + nI o) - 64) / 2).toInt = (e.toInt + o - 64) / 2 := by
    rw [(i32_half (by rw [x2]; omega) (by rw [x2]; omega)).1 (by rw [x2]; omega), x2]
  refine ⟨w.1, g_S_digitsBelowRoot w.1 ((q1 - (g_S_takeProduct w.1 w.1).1) - ((b2i (if uN (g_S_takeProduct w.1 w.1).2 ≤ uN q0 then false else true)).toInt64)) (q0 - (g_S_takeProduct w.1 w.1).2), ((e + nI o) - 64) / 2, o, V2 q1 q0, ?_, ho, ho2, x3, kv, sq_hi w2 ge, w1, w2, ?_⟩
  · unfold g_S_takeRoot
    dsimp only
    rw [if_neg hz, k2, hr, k1, eo]
  · rw [dig_is, rest]
theorem S_root_0 (e : Int32) : g_S_takeRoot 0 0 e = (0, 0, e) := by
  unfold g_S_takeRoot
  rw [if_pos ((V2_zero 0 0).mpr rfl)]
