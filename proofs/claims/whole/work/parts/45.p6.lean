/-! Pure rows, 6: what both put into the answer. -/
theorem pow_eq {a b : Nat} (h : a = b) : 2 ^ a = 2 ^ b := by rw [h]
theorem i32A {a b : Int32} {x y : Int} (ha : a.toInt = x) (hb : b.toInt = y) (h1 : -2147483648 ≤ x + y) (h2 : x + y < 2147483648) : (a + b).toInt = x + y := by
  subst ha; subst hb; exact i32_add h1 h2
theorem i32S {a b : Int32} {x y : Int} (ha : a.toInt = x) (hb : b.toInt = y) (h1 : -2147483648 ≤ x - y) (h2 : x - y < 2147483648) : (a - b).toInt = x - y := by
  subst ha; subst hb; exact i32_sub h1 h2
/-- what was left by rounding, by the place of its highest digit -/
def RU (W : Nat) (hi' : Int64) (q e : Int) : Prop :=
  (W = 0 ∧ hi' = 0) ∨ (W = 2 ^ 64 ∧ uN hi' = 2 ^ 63 ∧ e = q + 1) ∨
  (0 < W ∧ W < 2 ^ 64 ∧ ∃ t : Nat, t ≤ 63 ∧ 2 ^ t ≤ W ∧ W < 2 ^ (t + 1) ∧ uN hi' = W * 2 ^ (63 - t) ∧ e = q + t - 63)
theorem RS_RU {d W : Nat} {hi' : Int64} {ex ex' : Int32} {q : Int} (h : RS d W hi' ex ex') (hq : q = ex.toInt + d) (hd : d ≤ 40000) (he1 : -100000 ≤ ex.toInt) (he2 : ex.toInt ≤ 100000) : RU W hi' q ex'.toInt := by
  rcases h with ⟨a, b, c, u, e⟩ | ⟨a, b, u, e⟩ | ⟨a, b, u, e⟩ | ⟨a, b, u, e⟩
  · have hp : 0 < 2 ^ d := Nat.two_pow_pos d
    have e1 : 2 ^ 63 = 2 ^ (63 - d) * 2 ^ d := pow_split a
    have e2 : 2 ^ 64 = 2 ^ (63 - d + 1) * 2 ^ d := by rw [← Nat.pow_add]; exact pow_eq (by omega)
    have g1 : 2 ^ (63 - d) ≤ W := by
      rw [e1] at b
      exact Nat.le_of_mul_le_mul_right b hp
    have g2 : W < 2 ^ (63 - d + 1) := by
      rw [e2] at c
      exact Nat.lt_of_mul_lt_mul_right c
    have g3 : 2 ^ (63 - d + 1) ≤ 2 ^ 64 := Nat.pow_le_pow_right (by decide) (by omega)
    have g4 : 0 < 2 ^ (63 - d) := Nat.two_pow_pos _
    refine Or.inr (Or.inr ⟨by omega, by omega, 63 - d, by omega, g1, g2, ?_, ?_⟩)
    · have : 63 - (63 - d) = d := by omega
      rw [this, u]
    · rw [e, hq]; omega
  · by_cases d0 : d = 0
    · subst d0
      rw [Nat.pow_zero, Nat.mul_one] at b
      refine Or.inr (Or.inl ⟨b, u, ?_⟩)
      rw [e, i32_add1 (by omega), hq]
      omega
    · have e2 : 2 ^ 64 = 2 ^ (64 - d) * 2 ^ d := pow_split (by omega)
      have w : W = 2 ^ (64 - d) := Nat.eq_of_mul_eq_mul_right (Nat.two_pow_pos d) (b.trans e2)
      have g3 : 2 ^ (64 - d) < 2 ^ 64 := Nat.pow_lt_pow_right (by decide) (by omega)
      have g4 : 0 < 2 ^ (64 - d) := Nat.two_pow_pos _
      refine Or.inr (Or.inr ⟨by omega, by omega, 64 - d, by omega, by omega, ?_, ?_, ?_⟩)
      · rw [w]; exact Nat.pow_lt_pow_right (by decide) (by omega)
      · rw [u, w, ← Nat.pow_add]; exact pow_eq (by omega)
      · rw [e, i32_add1 (by omega), hq]; omega
  · exact Or.inl ⟨b, u⟩
  · have n1 : (nI d - 63).toInt = d - 63 := i32S (nI_toInt (by omega)) rfl (by omega) (by omega)
    refine Or.inr (Or.inr ⟨by omega, by omega, 0, by omega, by omega, by omega, ?_, ?_⟩)
    · rw [u, b, Nat.one_mul]
    · rw [e, i32_add (by omega) (by omega), n1, hq]; omega
/-- the place of the highest digit, found from above -/
theorem M_put_loop {jw : Int64} {t : Nat} (ht : t ≤ 63) (h1 : 2 ^ t ≤ uN jw) (h2 : uN jw < 2 ^ (t + 1)) : lrun (nx_M_put_32 jw) 64 63 = nI t := by
  have key : ∀ m, t + m ≤ 63 → ∀ fuel, m ≤ fuel → lrun (nx_M_put_32 jw) fuel (nI (t + m)) = nI t := by
    intro m
    induction m with
    | zero =>
      intro _ fuel _
      refine lrun_none ?_ fuel
      unfold nx_M_put_32
      have c : ¬ ((aR jw (nI (t + 0))) &&& 1) = 0 := by
        have o := (aR_o jw (d := t) (by omega)).mpr (by
          rw [tb_is]
          have : uN jw / 2 ^ t = 1 := by
            have a : 1 ≤ uN jw / 2 ^ t := by rw [Nat.le_div_iff_mul_le (Nat.two_pow_pos t)]; omega
            have b : uN jw / 2 ^ t < 2 := by rw [Nat.div_lt_iff_lt_mul (Nat.two_pow_pos t)]; rw [Nat.pow_succ] at h2; omega
            omega
          rw [this])
        show ¬ ((aR jw (nI t)) &&& 1) = 0
        rw [o]; decide
      rw [if_neg c]
    | succ m ih =>
      intro hm fuel hf
      obtain ⟨f, rfl⟩ : ∃ f, fuel = f + 1 := ⟨fuel - 1, by omega⟩
      have s : nx_M_put_32 jw (nI (t + (m + 1))) = some (nI (t + m)) := by
        unfold nx_M_put_32
        have c : ((aR jw (nI (t + (m + 1)))) &&& 1) = 0 := by
          rw [and1_z, ← and1_o, aR_o jw (by omega), tb_is]
          have : uN jw / 2 ^ (t + (m + 1)) = 0 := Nat.div_eq_of_lt (Nat.lt_of_lt_of_le h2 (Nat.pow_le_pow_right (by decide) (by omega)))
          rw [this]; decide
        rw [if_pos c]
        exact congrArg some (pk_m1 (t + m))
      rw [lrun_some s]
      exact ih (by omega) f (by omega)
  have e : t + (63 - t) = 63 := by omega
  have := key (63 - t) (by omega) 64 (by omega)
  rw [e] at this
  exact this
/-- so that nobody takes a row apart who needn't -/
def Hd (p : Prop) : Prop := p
theorem Hd.out {p : Prop} (h : Hd p) : p := h
theorem isZero_f {x : Int64} (h : ¬ x = 0) (y : Int64) : ¬ g_S_isZero x y = true := by
  unfold g_S_isZero
  rw [if_neg h]; decide
theorem i32_le1 (x : Int32) : (1 ≤ x) ↔ 1 ≤ x.toInt := by rw [Int32.le_iff_toInt_le]; rfl
theorem i32_le0 (x : Int32) : (x ≤ 0) ↔ x.toInt ≤ 0 := by rw [Int32.le_iff_toInt_le]; rfl
theorem put_is {W : Nat} {hi' jw : Int64} {ex' iq im : Int32} {bw : Bool} (bs : Bool) (h : RU W hi' iq.toInt ex'.toInt) (hj : uN jw = W % 2 ^ 64) (hw : bw = true ↔ W = 2 ^ 64) (q1 : -100000 ≤ iq.toInt) (q2 : iq.toInt ≤ 100000) (m1 : -30000 ≤ im.toInt) (m2 : im.toInt ≤ 30000)
    (hs : ex'.toInt + im.toInt + 16446 ≤ 0 → im.toInt = 0 ∧ 0 ≤ iq.toInt + 16445 ∧ iq.toInt + 16445 ≤ 63) :
    ∃ P F, g_M_put bs jw bw iq im = (g_M_answer bs P, F) ∧ g_R_putSize hi' 0 (ex' + im) = (P, F) ∧ (P.toInt = 0 ∨ (0 < P.toInt ∧ P.toInt = ex'.toInt + im.toInt + 16446)) := by
  have hw9 : Hd (bw = true ↔ W = 2 ^ 64) := hw
  have hs9 : Hd (ex'.toInt + im.toInt + 16446 ≤ 0 → im.toInt = 0 ∧ 0 ≤ iq.toInt + 16445 ∧ iq.toInt + 16445 ≤ 63) := hs
  clear hw hs
  rcases h with ⟨a, b⟩ | ⟨a, b, c⟩ | ⟨a, b, t, ht, c1, c2, c3, c4⟩
  · have j0 : jw = 0 := by rw [uN_z, hj, a]
    have w0 : ¬ bw = true := fun q => by
      have := hw9.out.mp q
      rw [a] at this
      exact absurd this (by decide)
    refine ⟨0, 0, ?_, ?_, Or.inl rfl⟩
    · unfold g_M_put
      rw [if_pos j0, if_neg w0]
    · unfold g_R_putSize g_S_isZero
      rw [if_pos b, if_pos rfl, if_pos rfl]
  · have j0 : jw = 0 := by rw [uN_z, hj, a]
    have w1 : bw = true := hw9.out.mpr a
    have hn : ¬ hi' = 0 := by rw [uN_z, b]; decide
    have hf : hi' = -9223372036854775808 := uN_inj (b.trans (by decide +kernel))
    have s1 : (ex' + im).toInt = ex'.toInt + im.toInt := i32_add (by omega) (by omega)
    have s2 : (g_S_power (ex' + im)).toInt = ex'.toInt + im.toInt + 16446 := by
      unfold g_S_power
      exact i32A s1 rfl (by omega) (by omega)
    have s3 : (((iq + 64) + 16383) + im).toInt = ex'.toInt + im.toInt + 16446 := by
      have x1 : (iq + 64).toInt = iq.toInt + 64 := i32A rfl rfl (by omega) (by omega)
      have x2 : ((iq + 64) + 16383).toInt = iq.toInt + 64 + 16383 := i32A x1 rfl (by omega) (by omega)
      rw [i32A x2 rfl (by omega) (by omega)]; omega
    have pp : 1 ≤ ex'.toInt + im.toInt + 16446 := by
      refine Classical.byContradiction (fun q => ?_)
      have := hs9.out (by omega)
      omega
    have eP : g_S_power (ex' + im) = ((iq + 64) + 16383) + im := Int32.toInt_inj.mp (s2.trans s3.symm)
    refine ⟨((iq + 64) + 16383) + im, -9223372036854775808, ?_, ?_, Or.inr ⟨by omega, s3⟩⟩
    · have c9 : ¬ ((((iq + 64) + 16383) + im) ≤ 0) := by rw [i32_le0, s3]; omega
      unfold g_M_put
      dsimp only
      rw [if_pos j0, if_pos w1, if_pos w1, if_neg c9, if_pos w1]
    · have c9 : 1 ≤ g_S_power (ex' + im) := by rw [i32_le1, s2]; exact pp
      unfold g_R_putSize
      rw [if_neg (isZero_f hn 0), if_pos c9, eP, hf]
  · have ej : uN jw = W := by rw [hj]; exact Nat.mod_eq_of_lt b
    have j0 : ¬ jw = 0 := by rw [uN_z, ej]; omega
    have w0 : ¬ bw = true := fun q => by have := hw9.out.mp q; omega
    have hp : 0 < 2 ^ (63 - t) := Nat.two_pow_pos _
    have hn : ¬ hi' = 0 := by
      rw [uN_z, c3]
      exact Nat.ne_of_gt (Nat.mul_pos a hp)
    have lw := M_put_loop ht (by rw [ej]; exact c1) (by rw [ej]; exact c2)
    have tt : (nI t).toInt = t := nI_toInt (by omega)
    have s1 : (ex' + im).toInt = ex'.toInt + im.toInt := i32_add (by omega) (by omega)
    have s2 : (g_S_power (ex' + im)).toInt = ex'.toInt + im.toInt + 16446 := by
      unfold g_S_power
      exact i32A s1 rfl (by omega) (by omega)
    have s3 : (((iq + nI t) + 16383) + im).toInt = ex'.toInt + im.toInt + 16446 := by
      have x1 : (iq + nI t).toInt = iq.toInt + t := i32A rfl tt (by omega) (by omega)
      have x2 : ((iq + nI t) + 16383).toInt = iq.toInt + t + 16383 := i32A x1 rfl (by omega) (by omega)
      rw [i32A x2 rfl (by omega) (by omega)]; omega
    have eP : g_S_power (ex' + im) = ((iq + nI t) + 16383) + im := Int32.toInt_inj.mp (s2.trans s3.symm)
    have n63 : (63 : Int32) - nI t = nI (63 - t) := nI_sub (a := 63) (by decide) ht
    have pz : 2 ^ (t + 1) * 2 ^ (63 - t) = 2 ^ 64 := by rw [← Nat.pow_add]; exact pow_eq (by omega)
    have wl : W * 2 ^ (63 - t) < 2 ^ 64 := by
      rw [← pz]; exact Nat.mul_lt_mul_of_pos_right c2 hp
    have eF : sL jw (63 - nI t) = hi' := by
      apply uN_inj
      rw [n63, uN_sL jw (by omega), ej, c3]
      exact Nat.mod_eq_of_lt wl
    by_cases pos : 1 ≤ ex'.toInt + im.toInt + 16446
    · refine ⟨((iq + nI t) + 16383) + im, hi', ?_, ?_, Or.inr ⟨by omega, s3⟩⟩
      · have c9 : ¬ ((((iq + nI t) + 16383) + im) ≤ 0) := by rw [i32_le0, s3]; omega
        unfold g_M_put
        dsimp only
        rw [if_neg j0, if_neg w0, lw, if_neg c9, if_neg w0, eF]
      · have c9 : 1 ≤ g_S_power (ex' + im) := by rw [i32_le1, s2]; exact pos
        unfold g_R_putSize
        rw [if_neg (isZero_f hn 0), if_pos c9, eP]
    · have c19 : Hd (2 ^ t ≤ W ∧ W < 2 ^ (t + 1) ∧ uN hi' = W * 2 ^ (63 - t) ∧ 0 < 2 ^ (63 - t) ∧ W * 2 ^ (63 - t) < 2 ^ 64) := ⟨c1, c2, c3, hp, wl⟩
      clear c1 c2 c3 hp wl pz
      obtain ⟨z1, z2, z3⟩ := hs9.out (by omega)
      obtain ⟨s, es⟩ : ∃ s : Nat, iq.toInt + 16445 = s := ⟨(iq.toInt + 16445).toNat, by omega⟩
      have nS : iq + 16445 = nI s := by
        apply Int32.toInt_inj.mp
        rw [i32A (x := iq.toInt) (y := 16445) rfl rfl (by omega) (by omega), nI_toInt (by omega)]; omega
      have nE : (1 : Int32) - g_S_power (ex' + im) = nI (63 - t - s) := by
        apply Int32.toInt_inj.mp
        rw [i32S (x := 1) rfl s2 (by omega) (by omega), nI_toInt (by omega)]; omega
      have ts : t + s ≤ 62 := by omega
      obtain ⟨c1, c2, c3, hp, wl⟩ := c19.out
      have p2 : 2 ^ (63 - t) = 2 ^ s * 2 ^ (63 - t - s) := by rw [← Nat.pow_add]; exact pow_eq (by omega)
      have eU : uR hi' (nI (63 - t - s)) = sL jw (nI s) := by
        apply uN_inj
        rw [uN_uR hi' (by omega), uN_sL jw (by omega), ej, c3, p2, ← Nat.mul_assoc, Nat.mul_div_cancel _ (Nat.two_pow_pos _)]
        refine (Nat.mod_eq_of_lt (Nat.lt_of_le_of_lt ?_ wl)).symm
        exact Nat.mul_le_mul_left _ (Nat.pow_le_pow_right (by decide) (by omega))
      refine ⟨0, sL jw (nI s), ?_, ?_, Or.inl rfl⟩
      · have c9 : (((iq + nI t) + 16383) + im) ≤ 0 := by rw [i32_le0, s3]; omega
        unfold g_M_put
        dsimp only
        rw [if_neg j0, if_neg w0, lw, if_pos c9, nS]
      · have c9 : ¬ 1 ≤ g_S_power (ex' + im) := by rw [i32_le1, s2]; exact pos
        unfold g_R_putSize
        rw [if_neg (isZero_f hn 0), if_neg c9, nE, eU]
