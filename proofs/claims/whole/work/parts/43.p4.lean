/-! Pure rows, 4: what the class's rounding leaves. -/
def RS (d W : Nat) (hi' : Int64) (ex ex' : Int32) : Prop :=
  (d ≤ 63 ∧ 2 ^ 63 ≤ W * 2 ^ d ∧ W * 2 ^ d < 2 ^ 64 ∧ uN hi' = W * 2 ^ d ∧ ex' = ex) ∨
  (d ≤ 63 ∧ W * 2 ^ d = 2 ^ 64 ∧ uN hi' = 2 ^ 63 ∧ ex' = ex + 1) ∨
  (64 ≤ d ∧ W = 0 ∧ hi' = 0 ∧ ex' = ex) ∨
  (64 ≤ d ∧ W = 1 ∧ uN hi' = 2 ^ 63 ∧ ex' = ex + (nI d - 63))
def upN (b : Bool) : Nat := if b = true then 1 else 0
theorem keep_rng {h d : Nat} (hd : d ≤ 63) (h1 : 2 ^ 63 ≤ h) (h2 : h < 2 ^ 64) : 2 ^ 63 ≤ h / 2 ^ d * 2 ^ d ∧ (h / 2 ^ d + 1) * 2 ^ d ≤ 2 ^ 64 ∧ h / 2 ^ d * 2 ^ d ≤ h := by
  have hp : 0 < 2 ^ d := Nat.two_pow_pos d
  have e1 : 2 ^ 63 = 2 ^ (63 - d) * 2 ^ d := pow_split hd
  have e2 : 2 ^ 64 = 2 ^ (64 - d) * 2 ^ d := pow_split (by omega)
  refine ⟨?_, ?_, Nat.div_mul_le_self h _⟩
  · have a : 2 ^ (63 - d) ≤ h / 2 ^ d := by
      rw [Nat.le_div_iff_mul_le hp, ← e1]; exact h1
    rw [e1]
    exact Nat.mul_le_mul_right _ a
  · have a : h / 2 ^ d < 2 ^ (64 - d) := by
      rw [Nat.div_lt_iff_lt_mul hp, ← e2]; exact h2
    rw [e2]
    exact Nat.mul_le_mul_right _ a
theorem uN_kept (hi : Int64) {d : Nat} (hd : d ≤ 40000) : uN (if (64 : Int32) ≤ nI d then 0 else (sL (uR hi (nI d)) (nI d))) = uN hi / 2 ^ d * 2 ^ d := by
  have hh := uN_lt' hi
  by_cases c : 64 ≤ d
  · rw [if_pos ((i64n hd).mpr c)]
    have z : uN hi / 2 ^ d = 0 := Nat.div_eq_of_lt (Nat.lt_of_lt_of_le hh (Nat.pow_le_pow_right (by decide) c))
    rw [z, Nat.zero_mul]
    rfl
  · rw [if_neg (fun q => c ((i64n hd).mp q)), uN_sL _ (by omega), uN_uR _ (by omega)]
    exact Nat.mod_eq_of_lt (Nat.lt_of_le_of_lt (Nat.div_mul_le_self _ _) hh)
theorem odd_is (hi : Int64) {d : Nat} (hd : d ≤ 40000) : (if (64 : Int32) ≤ nI d then false else if ((uR hi (nI d)) &&& 1) = 0 then false else true) = decide (uN hi / 2 ^ d % 2 = 1) := by
  have hh := uN_lt' hi
  by_cases c : 64 ≤ d
  · rw [if_pos ((i64n hd).mpr c)]
    have z : uN hi / 2 ^ d = 0 := Nat.div_eq_of_lt (Nat.lt_of_lt_of_le hh (Nat.pow_le_pow_right (by decide) c))
    rw [z]
    rfl
  · rw [if_neg (fun q => c ((i64n hd).mp q))]
    have e := and1_z (uR hi (nI d))
    rw [uN_uR _ (by omega)] at e
    by_cases q : uN hi / 2 ^ d % 2 = 1
    · rw [if_neg (fun r => e.mp r q), decide_eq_true q]
    · rw [if_pos (e.mpr q), decide_eq_false q]
theorem lossy_is (hi lo : Int64) (d : Nat) : (((sTr hi lo d).2.1 || (sTr hi lo d).2.2) = true) ↔ ¬ (uN hi / 2 ^ d * 2 ^ d = uN hi ∧ uN lo = 0) := by
  have hl := uN_lt' lo
  have dm : 2 ^ d * (uN hi / 2 ^ d) + uN hi % 2 ^ d = uN hi := Nat.div_add_mod _ _
  rw [Nat.mul_comm] at dm
  cases d with
  | zero =>
    show ((decide (2 ^ 63 ≤ uN lo) || decide (uN lo % 2 ^ 63 ≠ 0)) = true) ↔ _
    rw [Bool.or_eq_true, decide_eq_true_iff, decide_eq_true_iff, Nat.pow_zero, Nat.div_one, Nat.mul_one]
    omega
  | succ e =>
    show ((decide (uN hi / 2 ^ e % 2 = 1) || (decide (uN lo % 2 ^ 63 ≠ 0) || (decide (2 ^ 63 ≤ uN lo) || decide (uN hi % 2 ^ e ≠ 0)))) = true) ↔ _
    rw [Bool.or_eq_true, Bool.or_eq_true, Bool.or_eq_true, decide_eq_true_iff, decide_eq_true_iff, decide_eq_true_iff, decide_eq_true_iff]
    have m1 : uN hi % 2 ^ (e + 1) = uN hi % 2 ^ e + 2 ^ e * (uN hi / 2 ^ e % 2) := by rw [Nat.pow_succ, Nat.mod_mul]
    have m3 : uN hi / 2 ^ e % 2 = 0 ∨ uN hi / 2 ^ e % 2 = 1 := by omega
    have hp : 0 < 2 ^ e := Nat.two_pow_pos e
    generalize uN hi / 2 ^ (e + 1) * 2 ^ (e + 1) = K at dm ⊢
    generalize uN hi % 2 ^ (e + 1) = X at m1 dm
    generalize uN hi % 2 ^ e = Y at m1 ⊢
    generalize uN hi / 2 ^ e % 2 = Z at m1 m3 ⊢
    generalize 2 ^ e = P at m1 hp
    rcases m3 with m3 | m3
    · rw [m3] at m1; omega
    · rw [m3] at m1; omega
theorem S_round_is (hi lo : Int64) (ex : Int32) {d : Nat} (hd : d ≤ 40000) (hh : 2 ^ 63 ≤ uN hi) {way : Nat} (hw : way < 4) (bn : Bool) :
    ∃ hi' ex', g_S_round hi lo ex (nI d) (nI way) bn = (((sTr hi lo d).2.1 || (sTr hi lo d).2.2), hi', 0, ex') ∧ RS d ((sTr hi lo d).1 + upN (rnd way bn (decide ((sTr hi lo d).1 % 2 = 1)) (sTr hi lo d).2.1 (sTr hi lo d).2.2)) hi' ex ex' := by
  have hh2 := uN_lt' hi
  have hL := lossy_is hi lo d
  have hC := cmp_half hi lo hd
  have hK := uN_kept hi hd
  have hO := odd_is hi hd
  have h1 := sTr_1 hi lo d
  unfold g_S_round
  dsimp only
  rw [hO]
  generalize (if (64 : Int32) ≤ nI d then 0 else (sL (uR hi (nI d)) (nI d))) = kp at hK ⊢
  have kz : kp = hi ↔ uN hi / 2 ^ d * 2 ^ d = uN hi := by rw [← hK]; exact ⟨fun h => by rw [h], fun h => uN_inj h⟩
  have lz : lo = 0 ↔ uN lo = 0 := uN_z
  rw [h1]
  by_cases hly : ((sTr hi lo d).2.1 || (sTr hi lo d).2.2) = true
  · have nn : ¬ (kp = hi ∧ lo = 0) := fun q => hL.mp hly ⟨kz.mp q.1, lz.mp q.2⟩
    rw [hly, away_is (bo := decide (uN hi / 2 ^ d % 2 = 1)) (bn := bn) hw hC.1 hC.2 hly]
    generalize rnd way bn (decide (uN hi / 2 ^ d % 2 = 1)) (sTr hi lo d).2.1 (sTr hi lo d).2.2 = up
    have body : ∀ X : Bool × Int64 × Int64 × Int32, (if kp = hi then if lo = 0 then (false, hi, lo, ex) else X else X) = X := by
      intro X
      by_cases a : kp = hi
      · rw [if_pos a, if_neg (fun b => nn ⟨a, b⟩)]
      · rw [if_neg a]
    rw [body]
    cases up
    · rw [if_neg (by decide), if_neg (by decide)]
      refine ⟨kp, ex, rfl, ?_⟩
      show RS d (uN hi / 2 ^ d + 0) kp ex ex
      rw [Nat.add_zero]
      by_cases c : d ≤ 63
      · have r := keep_rng c hh hh2
        exact Or.inl ⟨c, r.1, Nat.lt_of_le_of_lt r.2.2 hh2, hK, rfl⟩
      · have z : uN hi / 2 ^ d = 0 := Nat.div_eq_of_lt (Nat.lt_of_lt_of_le hh2 (Nat.pow_le_pow_right (by decide) (by omega)))
        refine Or.inr (Or.inr (Or.inl ⟨by omega, z, ?_, rfl⟩))
        rw [uN_z, hK, z, Nat.zero_mul]
    · rw [if_pos rfl, if_pos rfl]
      show ∃ hi' ex', _ ∧ RS d (uN hi / 2 ^ d + 1) hi' ex ex'
      by_cases c : d ≤ 63
      · have c' : nI d < (64 : Int32) := (i64n' hd).mpr (by omega)
        rw [if_pos c', if_pos c']
        have r := keep_rng c hh hh2
        have e1 : uN (kp + sL 1 (nI d)) = ((uN hi / 2 ^ d + 1) * 2 ^ d) % 2 ^ 64 := by
          rw [uN_add, hK, uN_one (by omega), Nat.add_mul, Nat.one_mul]
        by_cases z : kp + sL 1 (nI d) = 0
        · rw [if_pos z, if_pos z]
          refine ⟨_, _, rfl, Or.inr (Or.inl ⟨c, ?_, by decide, rfl⟩)⟩
          rw [uN_z, e1] at z
          have r2 := r.2.1
          have r3 : 2 ^ 63 ≤ (uN hi / 2 ^ d + 1) * 2 ^ d := Nat.le_trans r.1 (Nat.mul_le_mul_right _ (by omega))
          generalize (uN hi / 2 ^ d + 1) * 2 ^ d = V at z r2 r3 ⊢
          omega
        · rw [if_neg z, if_neg z]
          refine ⟨_, _, rfl, Or.inl ⟨c, Nat.le_trans r.1 (Nat.mul_le_mul_right _ (by omega)), ?_, ?_, rfl⟩⟩
          · rw [uN_z, e1] at z
            have r2 := r.2.1
            generalize (uN hi / 2 ^ d + 1) * 2 ^ d = V at z r2 ⊢
            omega
          · rw [e1]
            rw [uN_z, e1] at z
            have r2 := r.2.1
            generalize (uN hi / 2 ^ d + 1) * 2 ^ d = V at z r2 ⊢
            omega
      · have c' : ¬ nI d < (64 : Int32) := fun q => c (by have := (i64n' hd).mp q; omega)
        rw [if_neg c', if_neg c']
        have z : uN hi / 2 ^ d = 0 := Nat.div_eq_of_lt (Nat.lt_of_lt_of_le hh2 (Nat.pow_le_pow_right (by decide) (by omega)))
        exact ⟨_, _, rfl, Or.inr (Or.inr (Or.inr ⟨by omega, by rw [z], by decide, rfl⟩))⟩
  · have nn : kp = hi ∧ lo = 0 := by
      have q : uN hi / 2 ^ d * 2 ^ d = uN hi ∧ uN lo = 0 := Classical.byContradiction (fun q => hly (hL.mpr q))
      exact ⟨kz.mpr q.1, lz.mpr q.2⟩
    rw [if_pos nn.1, if_pos nn.2, nn.2]
    rw [nn.2] at hly
    have f : ((sTr hi 0 d).2.1 || (sTr hi 0 d).2.2) = false := by
      cases q : ((sTr hi 0 d).2.1 || (sTr hi 0 d).2.2)
      · rfl
      · exact absurd q hly
    obtain ⟨fa, fb⟩ := Bool.or_eq_false_iff.mp f
    rw [fa, fb]
    refine ⟨hi, ex, rfl, ?_⟩
    have u0 : upN (rnd way bn (decide (uN hi / 2 ^ d % 2 = 1)) false false) = 0 := by
      unfold rnd upN
      rcases (show way = 0 ∨ way = 1 ∨ way = 2 ∨ way = 3 by omega) with rfl | rfl | rfl | rfl <;> cases bn <;> rfl
    rw [u0, Nat.add_zero]
    have kk := kz.mp nn.1
    by_cases c : d ≤ 63
    · exact Or.inl ⟨c, by rw [kk]; exact hh, by rw [kk]; exact hh2, kk.symm, rfl⟩
    · have z : uN hi / 2 ^ d = 0 := Nat.div_eq_of_lt (Nat.lt_of_lt_of_le hh2 (Nat.pow_le_pow_right (by decide) (by omega)))
      rw [z, Nat.zero_mul] at kk
      rw [← kk] at hh
      exact absurd hh (by decide)
