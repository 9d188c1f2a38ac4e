/-! Pure rows, 12: the class's quotient. -/
def RW (m : Bool) (x : Int64) : Nat := (if m = true then 2 ^ 64 else 0) + uN x
theorem RW_dbl (x : Int64) : RW (if 0 ≤ x then false else true) (sL x 1) = 2 * uN x := by
  have a2 : uN (sL x 1) = uN x * 2 ^ 1 % 2 ^ 64 := uN_sL x (d := 1) (by decide)
  have l := uN_lt x
  have c0 : (0 ≤ x) ↔ ¬ x < 0 := ⟨fun h q => absurd (Int64.lt_iff_toInt_lt.mp q) (by have := Int64.le_iff_toInt_le.mp h; omega), fun h => Int64.le_iff_toInt_le.mpr (by have : ¬ x.toInt < (0 : Int64).toInt := fun q => h (Int64.lt_iff_toInt_lt.mpr q); omega)⟩
  unfold RW
  rw [a2]
  by_cases c : 0 ≤ x
  · have q : ¬ 2 ^ 63 ≤ uN x := fun q => c0.mp c ((i64_lt0 x).mpr q)
    rw [if_pos c, if_neg nff]
    rw [p63] at q
    rw [p64]
    omega
  · have q : 2 ^ 63 ≤ uN x := Classical.byContradiction (fun q => c (c0.mpr (fun w => q ((i64_lt0 x).mp w))))
    rw [if_neg c, if_pos ytt]
    rw [p63] at q
    rw [p64]
    omega
theorem V2_or1 (hi lo : Int64) : V2 hi (lo ||| 1) = jam (V2 hi lo) true := by
  have e : uN (lo ||| 1) = jam (uN lo) true := by
    rw [uN_orN]
    exact or_bit (uN lo) (b := 1) (by decide)
  unfold V2
  rw [e, jam_add _ _ _ (even64 _)]
noncomputable def fDiv (d : Int64) (r : Int64 × Bool × Int64 × Int64) : Int64 × Bool × Int64 × Int64 :=
  let j0 : Int64 := if r.2.1 = true then (r.1 - d) else if uN r.1 < uN d then r.1 else (r.1 - d)
  let j1 : Int64 := if r.2.1 = true then ((sL r.2.2.2 1) ||| 1) else if uN r.1 < uN d then (sL r.2.2.2 1) else ((sL r.2.2.2 1) ||| 1)
  (sL j0 1, (if 0 ≤ j0 then false else true), ((sL r.2.2.1 1) ||| (uR r.2.2.2 63)), j1)
def iDiv (h0 d : Nat) (j : Nat) (r : Int64 × Bool × Int64 × Int64) : Prop :=
  h0 * 2 ^ j = 2 * (d * V2 r.2.2.1 r.2.2.2) + RW r.2.1 r.1 ∧ RW r.2.1 r.1 < 2 * d ∧ V2 r.2.2.1 r.2.2.2 < 2 ^ j ∧ (j = 0 ∨ RW r.2.1 r.1 % 2 = 0)
theorem div_step {h0 : Nat} {d : Int64} {j : Nat} (hj : j < 128) {r : Int64 × Bool × Int64 × Int64} (h : iDiv h0 (uN d) j r) : iDiv h0 (uN d) (j + 1) (fDiv d r) := by
  obtain ⟨rest, more, hi, lo⟩ := r
  obtain ⟨a1, a2, a3, a4⟩ := h
  dsimp only at a1 a2 a3 a4
  have ld := uN_lt d
  have lr := uN_lt rest
  have hq : V2 hi lo < 2 ^ 127 := Nat.lt_of_lt_of_le a3 (Nat.pow_le_pow_right (by decide) (by omega))
  have hh : uN hi < 2 ^ 63 := by
    unfold V2 at hq
    rw [p127, p64] at hq
    rw [p63]
    omega
  have vd := V2_dbl (lo := lo) hh
  have vo : V2 ((sL hi 1) ||| (uR lo 63)) ((sL lo 1) ||| 1) = 2 * V2 hi lo + 1 := by
    rw [V2_or1, vd, jam_true, if_pos (by omega)]
  have pj : 2 ^ (j + 1) = 2 ^ j * 2 := Nat.pow_succ _ _
  have e1 : h0 * 2 ^ (j + 1) = 2 * (h0 * 2 ^ j) := by rw [pj, ← Nat.mul_assoc, Nat.mul_comm]
  have key : ∀ {j0 j1 : Int64}, ((uN j0 = RW more rest ∧ RW more rest < uN d ∧ V2 ((sL hi 1) ||| (uR lo 63)) j1 = 2 * V2 hi lo) ∨ (uN j0 + uN d = RW more rest ∧ V2 ((sL hi 1) ||| (uR lo 63)) j1 = 2 * V2 hi lo + 1)) → iDiv h0 (uN d) (j + 1) (sL j0 1, (if 0 ≤ j0 then false else true), ((sL hi 1) ||| (uR lo 63)), j1) := by
    intro j0 j1 hk
    unfold iDiv
    dsimp only
    rw [RW_dbl, e1, a1]
    rcases hk with ⟨k1, k2, k3⟩ | ⟨k1, k3⟩
    · rw [k3, k1, Nat.mul_left_comm (uN d) 2 (V2 hi lo)]
      exact ⟨by omega, by omega, by omega, Or.inr (by omega)⟩
    · rw [k3, Nat.mul_add (uN d), Nat.mul_one, Nat.mul_left_comm (uN d) 2 (V2 hi lo)]
      exact ⟨by omega, by omega, by omega, Or.inr (by omega)⟩
  have sb : uN d ≤ RW more rest → uN (rest - d) + uN d = RW more rest := by
    intro q
    rw [uN_sub]
    unfold RW at q a2 ⊢
    cases more
    · rw [if_neg nff] at q a2 ⊢
      rw [p64]
      omega
    · rw [if_pos ytt] at q a2 ⊢
      rw [p64] at q a2 ⊢
      omega
  unfold fDiv
  dsimp only
  apply key
  cases more
  · rw [if_neg nff, if_neg nff]
    have rw0 : RW false rest = uN rest := by unfold RW; rw [if_neg nff, Nat.zero_add]
    by_cases q : uN rest < uN d
    · rw [if_pos q, if_pos q, rw0]
      exact Or.inl ⟨rfl, q, vd⟩
    · rw [if_neg q, if_neg q]
      exact Or.inr ⟨sb (by rw [rw0]; omega), vo⟩
  · rw [if_pos ytt, if_pos ytt]
    have rw1 : RW true rest = 2 ^ 64 + uN rest := by unfold RW; rw [if_pos ytt]
    exact Or.inr ⟨sb (by rw [rw1, p64]; omega), vo⟩
theorem half_eq {N Y R : Nat} (h : 2 * N = 2 * Y + R) (e : R % 2 = 0) : N = R / 2 + Y := by omega
theorem S_div_core {h0 d : Int64} (hl : uN h0 < 2 * uN d) (e0 e1 : Int32) : ∃ hi lo : Int64, V2 hi lo = jam (uN h0 * 2 ^ 63 * 2 ^ 64 / uN d) (decide (uN h0 * 2 ^ 63 * 2 ^ 64 % uN d ≠ 0)) ∧ g_S_divide h0 e0 d e1 = (let z := g_S_normalize hi lo (e0 - (e1 + 63)); (z.1, z.2.1, z.2.2)) := by
  have hr : lrun (nx_S_divide_21 d) 128 (h0, false, 0, 0, 0) = (fun r : Int64 × Bool × Int64 × Int64 => (r.1, r.2.1, nI 128, r.2.2.1, r.2.2.2)) (iterUp (fun _ r => fDiv d r) 0 128 (h0, false, 0, 0)) := by
    refine lrun_up (nx_S_divide_21 d) (fun j (r : Int64 × Bool × Int64 × Int64) => (r.1, r.2.1, nI j, r.2.2.1, r.2.2.2)) (fun _ r => fDiv d r) 128 ?_ ?_ 128 0 (h0, false, 0, 0) rfl 128 (Nat.le_refl _)
    · intro j r hj
      have cj : ¬ (128 : Int32) ≤ nI j := show ¬ nI 128 ≤ nI j from nI_ge (by omega) (by omega)
      unfold nx_S_divide_21 fDiv
      dsimp only
      rw [if_neg cj, nI_1]
    · intro r
      unfold nx_S_divide_21
      dsimp only
      rw [if_pos (show (128 : Int32) ≤ nI 128 by decide)]
  have inv := iterUp_inv (fun _ r => fDiv d r) (iDiv (uN h0) (uN d)) 128 (fun j r hj h => div_step hj h) 128 0 (h0, false, 0, 0) rfl (by
    have rw0 : RW false h0 = uN h0 := by unfold RW; rw [if_neg nff, Nat.zero_add]
    have v0 : V2 0 0 = 0 := rfl
    unfold iDiv
    dsimp only
    rw [v0, rw0, Nat.pow_zero, Nat.mul_one, Nat.mul_zero]
    exact ⟨by omega, hl, by decide, Or.inl rfl⟩)
  generalize iterUp (fun _ r => fDiv d r) 0 128 (h0, false, 0, 0) = w at hr inv
  obtain ⟨rest, more, hi, lo⟩ := w
  obtain ⟨a1, a2, a3, a4⟩ := inv
  dsimp only at a1 a2 a3 a4 hr
  have a4 : RW more rest % 2 = 0 := by rcases a4 with q | q
                                       · exact absurd q (by decide)
                                       · exact q
  have dp : 0 < uN d := by omega
  have e8 : uN h0 * 2 ^ 128 = 2 * (uN h0 * 2 ^ 63 * 2 ^ 64) := by
    have q : (2 : Nat) ^ 128 = 2 * (2 ^ 63 * 2 ^ 64) := by decide
    rw [q, Nat.mul_assoc (uN h0), Nat.mul_left_comm]
  have eq : uN h0 * 2 ^ 63 * 2 ^ 64 = RW more rest / 2 + uN d * V2 hi lo := by
    rw [e8] at a1
    exact half_eq a1 a4
  have l2 : RW more rest / 2 < uN d := by omega
  have hdiv : uN h0 * 2 ^ 63 * 2 ^ 64 / uN d = V2 hi lo := by rw [eq, Nat.add_mul_div_left _ _ dp, Nat.div_eq_of_lt l2, Nat.zero_add]
  have hmod : uN h0 * 2 ^ 63 * 2 ^ 64 % uN d = RW more rest / 2 := by rw [eq, Nat.add_mul_mod_self_left, Nat.mod_eq_of_lt l2]
  rw [hdiv, hmod]
  refine ⟨hi, (if more = true then (lo ||| 1) else if rest = 0 then lo else (lo ||| 1)), ?_, ?_⟩
  · cases more
    · rw [if_neg nff]
      have rw0 : RW false rest = uN rest := by unfold RW; rw [if_neg nff, Nat.zero_add]
      rw [rw0] at a4 ⊢
      by_cases z : rest = 0
      · rw [if_pos z]
        rw [uN_z] at z
        rw [z]
        exact (jam_false _).symm
      · rw [if_neg z]
        rw [uN_z] at z
        rw [V2_or1, decide_eq_true (show uN rest / 2 ≠ 0 by omega)]
    · rw [if_pos ytt]
      have rw1 : RW true rest = 2 ^ 64 + uN rest := by unfold RW; rw [if_pos ytt]
      rw [V2_or1, rw1, decide_eq_true (show (2 ^ 64 + uN rest) / 2 ≠ 0 by rw [p64]; omega)]
  · unfold g_S_divide
    dsimp only
    rw [hr]
theorem S_div_is {h0 h1 : Int64} {e0 e1 : Int32} (hh : 2 ^ 63 ≤ uN h0) (hd : 2 ^ 63 ≤ uN h1) (a1 : -100000 ≤ e0.toInt) (a2 : e0.toInt ≤ 100000) (b1 : -100000 ≤ e1.toInt) (b2 : e1.toInt ≤ 100000) :
    ∃ (s : Nat) (hi lo : Int64) (ex : Int32), g_S_divide h0 e0 h1 e1 = (hi, lo, ex) ∧ 2 ^ 63 ≤ uN hi ∧ s ≤ 1 ∧ ex.toInt = e0.toInt - e1.toInt - 63 - s ∧ sTr hi lo 0 = tr (uN h0 * 2 ^ 63 * 2 ^ s) (uN h1) := by
  have l0 := uN_lt h0
  have l1 := uN_lt h1
  obtain ⟨qh, ql, v, g⟩ := S_div_core (h0 := h0) (d := h1) (by rw [p63] at hd; omega) e0 e1
  have x1 : (e1 + 63).toInt = e1.toInt + 63 := i32A rfl rfl (by omega) (by omega)
  have x2 : (e0 - (e1 + 63)).toInt = e0.toInt - (e1.toInt + 63) := i32S rfl x1 (by omega) (by omega)
  have ge : 2 ^ 126 ≤ V2 qh ql := by
    rw [v]
    refine Nat.le_trans ?_ (jam_ge _ _)
    rw [Nat.le_div_iff_mul_le (by rw [p63] at hd; omega)]
    rw [p63] at hh
    rw [p126, p63, p64]
    omega
  obtain ⟨s, hi, lo, ex, n1, n2, n3, n4, n5⟩ := S_norm (hi := qh) (lo := ql) (ex := e0 - (e1 + 63)) (by rw [p126] at ge; omega) (by rw [x2]; omega) (by rw [x2]; omega)
  have hs : s + 126 ≤ 127 := norm_le n4 (V2_lt _ _) ge (by decide)
  refine ⟨s, hi, lo, ex, ?_, n5, by omega, by rw [n3, x2]; omega, ?_⟩
  · rw [g, n1]
  · rw [sTr0, n4, v, td_jam (by omega), td_ratio (by rw [p63] at hd; omega) (by omega)]
theorem S_div_0 {h1 : Int64} (e0 e1 : Int32) (hd : 2 ^ 63 ≤ uN h1) : ∃ (hi lo : Int64) (ex : Int32), g_S_divide 0 e0 h1 e1 = (hi, lo, ex) ∧ V2 hi lo = 0 := by
  have u0 : uN 0 = 0 := rfl
  obtain ⟨qh, ql, v, g⟩ := S_div_core (h0 := 0) (d := h1) (by rw [p63] at hd; rw [u0]; omega) e0 e1
  rw [u0, Nat.zero_mul, Nat.zero_div, Nat.zero_mod] at v
  have v : V2 qh ql = 0 := v
  exact ⟨_, _, _, by rw [g, S_norm0 _ v], v⟩
