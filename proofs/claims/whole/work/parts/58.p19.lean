/-! Pure rows, 19: product, quotient, root: what comes out. -/
def Out (wd tl : Int32) (bs : Bool) (hi lo : Int64) (ex : Int32) (t tp : Int32) (fr : Int64) : Prop :=
  ∃ (s P : Int32) (F : Int64), (∃ X, g_O_make wd hi lo ex bs = (s, P, F, X)) ∧ t = tl + s ∧ tp = g_M_answer bs P ∧ fr = F ∧ 0 ≤ P.toInt ∧ P.toInt ≤ 32767 ∧ sOk s
theorem Out_make {hi lo : Int64} {ex z un : Int32} {mo : Bool} {rb : Nat → Bool} (h : AG hi lo ex z un mo rb) {wd : Int32} (h0 : 0 ≤ wd.toInt) (tl : Int32) (bs : Bool) : Out wd tl bs hi lo ex (g_M_make wd z un mo tl rb bs).1 (g_M_make wd z un mo tl rb bs).2.1 (g_M_make wd z un mo tl rb bs).2.2.1 := by
  obtain ⟨s, P, F, ⟨hX, ⟨Y, hY⟩⟩, p0, p1, hs⟩ := make_is h h0 tl bs
  rw [hY]
  exact ⟨s, P, F, hX, rfl, rfl, rfl, p0, p1, hs⟩
theorem Out_zero {hi lo : Int64} (ex : Int32) (h : V2 hi lo = 0) (wd tl : Int32) (bs : Bool) : Out wd tl bs hi lo ex tl (g_M_answer bs 0) 0 := by
  refine ⟨0, 0, 0, ?_, (Int32.add_zero tl).symm, rfl, rfl, by decide, by decide, Or.inl rfl⟩
  unfold g_O_make
  rw [if_pos ((V2_zero hi lo).mpr h)]
  exact ⟨_, rfl⟩
theorem high_neg {z : Int32} (hz : okz z) (row : Nat → Bool) : (g_M_highest z row < 0) ↔ bN row z.toInt.toNat = 0 := by
  have r := hiB_rng row z.toInt.toNat
  rw [Int32.lt_iff_toInt_lt, M_highest_is hz, ← hiB_none]
  show hiB row z.toInt.toNat < (0 : Int) ↔ _
  omega
section Ops
variable {pw : Nat → Int32} {pt : Nat → Int64} {wd tl : Int32}
theorem product_both (a0 : 0 ≤ (pw 0).toInt) (a1 : (pw 0).toInt ≤ 32767) (b0 : 0 ≤ (pw 1).toInt) (b1 : (pw 1).toInt ≤ 32767) (h0 : 0 ≤ wd.toInt) (ly : Bool) (rb : Nat → Bool) (bs : Bool) :
    ∃ (hi lo : Int64) (ex : Int32), g_S_multiply (g_S_take (pw 0) (pt 0)).1 (g_S_take (pw 0) (pt 0)).2.2 (g_S_take (pw 1) (pt 1)).1 (g_S_take (pw 1) (pt 1)).2.2 = (hi, lo, ex) ∧ Out wd tl bs hi lo ex (g_M_product wd tl ly pw pt rb bs).2.1 (g_M_product wd tl ly pw pt rb bs).2.2.1 (g_M_product wd tl ly pw pt rb bs).2.2.2.1 := by
  have row := M_prod_row pt rb
  have u0 : uN 0 = 0 := rfl
  have hh := high_neg okz_130 (lrun (nx_M_product_20 pt) 64 (0, g_M_empty rb 130)).2
  have z130 : (130 : Int32).toInt.toNat = 130 := rfl
  rw [z130, row] at hh
  have un0 : (g_M_unitOf pw 0).toInt = uT (pw 0) := M_unit (i := 0) a0 a1
  have un1 : (g_M_unitOf pw 1).toInt = uT (pw 1) := M_unit (i := 1) b0 b1
  have q0 := uT_rng a0 a1
  have q1 := uT_rng b0 b1
  have hu : ((g_M_unitOf pw 0) + (g_M_unitOf pw 1)).toInt = uT (pw 0) + uT (pw 1) := i32A un0 un1 (by omega) (by omega)
  unfold g_M_product
  dsimp only
  generalize (lrun (nx_M_product_20 pt) 64 (0, g_M_empty rb 130)).2 = rw9 at row hh ⊢
  by_cases z0 : pt 0 = 0
  · rw [if_pos (hh.mpr (by rw [z0, u0, Nat.zero_mul]))]
    have t : g_S_take (pw 0) (pt 0) = (0, 0, -20000) := by rw [z0]; exact S_take_0 _
    rw [t]
    dsimp only
    obtain ⟨hi, lo, ex, g, gz⟩ := S_mul_0 (h0 := 0) (h1 := (g_S_take (pw 1) (pt 1)).1) (-20000) (g_S_take (pw 1) (pt 1)).2.2 (by rw [u0, Nat.zero_mul])
    exact ⟨hi, lo, ex, g, Out_zero ex gz wd tl bs⟩
  · by_cases z1 : pt 1 = 0
    · rw [if_pos (hh.mpr (by rw [z1, u0, Nat.mul_zero]))]
      have t : g_S_take (pw 1) (pt 1) = (0, 0, -20000) := by rw [z1]; exact S_take_0 _
      rw [t]
      dsimp only
      obtain ⟨hi, lo, ex, g, gz⟩ := S_mul_0 (h0 := (g_S_take (pw 0) (pt 0)).1) (h1 := 0) (g_S_take (pw 0) (pt 0)).2.2 (-20000) (by rw [u0, Nat.mul_zero])
      exact ⟨hi, lo, ex, g, Out_zero ex gz wd tl bs⟩
    · have nz : ¬ uN (pt 0) * uN (pt 1) = 0 := by
        intro q
        rcases Nat.mul_eq_zero.mp q with w | w
        · exact z0 (uN_z.mpr w)
        · exact z1 (uN_z.mpr w)
      rw [if_neg (fun w => nz (hh.mp w))]
      obtain ⟨hi, lo, ex, g, ag⟩ := AG_mul a0 a1 b0 b1 z0 z1 hu row
      exact ⟨hi, lo, ex, g, Out_make ag h0 tl bs⟩
theorem nothing_is {i : Int32} (h : (pw i.toNatClampNeg).toInt ≤ 32766) : (g_M_isNothing pw pt i = true) ↔ pt i.toNatClampNeg = 0 := by
  have c : ¬ (32767 : Int32) ≤ pw i.toNatClampNeg := by
    rw [Int32.le_iff_toInt_le]
    show ¬ (32767 : Int) ≤ _
    omega
  unfold g_M_isNothing
  rw [if_neg c]
  by_cases z : pt i.toNatClampNeg = 0
  · rw [if_pos z]; exact ⟨fun _ => z, fun _ => rfl⟩
  · rw [if_neg z]; exact ⟨fun q => absurd q nff, fun q => absurd q z⟩
theorem quotient_both (a0 : 0 ≤ (pw 0).toInt) (a1 : (pw 0).toInt ≤ 32766) (b0 : 0 ≤ (pw 1).toInt) (b1 : (pw 1).toInt ≤ 32766) (hz1 : ¬ pt 1 = 0) (h0 : 0 ≤ wd.toInt) (sz un : Int32) (mo ly : Bool) (rb : Nat → Bool) (bs : Bool) :
    ∃ (hi lo : Int64) (ex : Int32), g_S_divide (g_S_take (pw 0) (pt 0)).1 (g_S_take (pw 0) (pt 0)).2.2 (g_S_take (pw 1) (pt 1)).1 (g_S_take (pw 1) (pt 1)).2.2 = (hi, lo, ex) ∧ Out wd tl bs hi lo ex (g_M_quotient wd sz un mo tl ly pw pt rb bs).2.2.2.1 (g_M_quotient wd sz un mo tl ly pw pt rb bs).2.2.2.2.1 (g_M_quotient wd sz un mo tl ly pw pt rb bs).2.2.2.2.2.1 := by
  have un0 : (g_M_unitOf pw 0).toInt = uT (pw 0) := M_unit (i := 0) a0 (by show (pw 0).toInt ≤ 32767; omega)
  have un1 : (g_M_unitOf pw 1).toInt = uT (pw 1) := M_unit (i := 1) b0 (by show (pw 1).toInt ≤ 32767; omega)
  have q0 := uT_rng a0 (show (pw 0).toInt ≤ 32767 by omega)
  have q1 := uT_rng b0 (show (pw 1).toInt ≤ 32767 by omega)
  have d1 : ((g_M_unitOf pw 0) - (g_M_unitOf pw 1)).toInt = uT (pw 0) - uT (pw 1) := i32S un0 un1 (by omega) (by omega)
  have hu : (((g_M_unitOf pw 0) - (g_M_unitOf pw 1)) - 136).toInt = uT (pw 0) - uT (pw 1) - 136 := i32S d1 rfl (by omega) (by omega)
  have hn : (g_M_isNothing pw pt 0 = true) ↔ pt 0 = 0 := nothing_is (i := 0) a1
  unfold g_M_quotient
  dsimp only
  by_cases z0 : pt 0 = 0
  · rw [if_pos (hn.mpr z0)]
    have t : g_S_take (pw 0) (pt 0) = (0, 0, -20000) := by rw [z0]; exact S_take_0 _
    obtain ⟨s2, h2, e2, t2, l2, x2, v2, w2⟩ := S_take_is b0 (by omega) hz1
    rw [t, t2]
    dsimp only
    obtain ⟨hi, lo, ex, g, gz⟩ := S_div_0 (h1 := h2) (-20000) e2 w2
    exact ⟨hi, lo, ex, g, Out_zero ex gz wd tl bs⟩
  · rw [if_neg (fun w => z0 (hn.mp w))]
    have dp : 0 < uN (pt 1) := by
      rw [uN_z] at hz1
      omega
    obtain ⟨w, hr, i2, i3⟩ := M_quo_row pt rb dp
    rw [hr]
    have hmo : (if w.1 = 0 then false else true) = decide (uN (pt 0) * 2 ^ 136 % uN (pt 1) ≠ 0) := by
      rw [← i3]
      by_cases c : w.1 = 0
      · rw [if_pos c, c]; rfl
      · rw [if_neg c]
        rw [uN_z] at c
        exact (decide_eq_true c).symm
    obtain ⟨hi, lo, ex, g, ag⟩ := AG_div a0 (by omega) b0 (by omega) z0 hz1 hu i2 hmo
    exact ⟨hi, lo, ex, g, Out_make ag h0 tl bs⟩
theorem root_both {mi : Nat → Bool} (a0 : 0 ≤ (pw 0).toInt) (a1 : (pw 0).toInt ≤ 32766) (hs : ¬ pt 0 = 0 → mi 0 = false) (h0 : 0 ≤ wd.toInt) (sz un : Int32) (mo ly : Bool) (rb : Nat → Bool) :
    ∃ (hi lo : Int64) (ex : Int32), g_S_takeRoot (g_S_take (pw 0) (pt 0)).1 (g_S_take (pw 0) (pt 0)).2.1 (g_S_take (pw 0) (pt 0)).2.2 = (hi, lo, ex) ∧ Out wd tl (mi 0) hi lo ex (g_M_root wd sz un mo tl ly mi pw pt rb).2.2.2.1 (g_M_root wd sz un mo tl ly mi pw pt rb).2.2.2.2.1 (g_M_root wd sz un mo tl ly mi pw pt rb).2.2.2.2.2.1 := by
  have un0 : (g_M_unitOf pw 0).toInt = uT (pw 0) := M_unit (i := 0) a0 (by show (pw 0).toInt ≤ 32767; omega)
  have q0 := uT_rng a0 (show (pw 0).toInt ≤ 32767 by omega)
  have hn : (g_M_isNothing pw pt 0 = true) ↔ pt 0 = 0 := nothing_is (i := 0) a1
  unfold g_M_root
  dsimp only
  by_cases z0 : pt 0 = 0
  · rw [if_pos (hn.mpr z0)]
    have t : g_S_take (pw 0) (pt 0) = (0, 0, -20000) := by rw [z0]; exact S_take_0 _
    rw [t]
    dsimp only
    exact ⟨0, 0, -20000, S_root_0 _, Out_zero _ rfl wd tl (mi 0)⟩
  · rw [if_neg (fun w => z0 (hn.mp w)), hs z0]
    have hf := i32_half (x := g_M_unitOf pw 0) (by omega) (by omega)
    obtain ⟨odd, o, e1, e2, e3, e4, e5⟩ : ∃ (odd : Bool) (o : Nat), (if ((g_M_unitOf pw 0) - (g_M_unitOf pw 0) / 2 * 2) = 0 then false else true) = odd ∧ (if odd = true then 1 else 0) = o ∧ o ≤ 1 ∧ (uT (pw 0) - o) % 2 = 0 ∧ (if odd = true then ((g_M_unitOf pw 0) - 1) else (g_M_unitOf pw 0)).toInt = uT (pw 0) - o := by
      by_cases c : ((g_M_unitOf pw 0) - (g_M_unitOf pw 0) / 2 * 2) = 0
      · have c' := hf.2.mp c
        rw [un0] at c'
        refine ⟨false, 0, if_pos c, rfl, by decide, by omega, ?_⟩
        rw [if_neg nff, un0]
        omega
      · have c' := mt hf.2.mpr c
        rw [un0] at c'
        refine ⟨true, 1, if_neg c, rfl, by decide, by omega, ?_⟩
        rw [if_pos ytt]
        exact i32S un0 rfl (by omega) (by omega)
    rw [e1]
    generalize (if odd = true then ((g_M_unitOf pw 0) - 1) else (g_M_unitOf pw 0)) = lw at e5 ⊢
    obtain ⟨w, hr, R, r1, r2, r3⟩ := M_root_row pt rb odd
    rw [hr, r3]
    rw [e2] at r1
    have hl := (i32_half (x := lw) (by omega) (by omega)).1 (by omega)
    have hu : ((lw / 2) - 70).toInt = (uT (pw 0) - o) / 2 - 70 := by
      rw [e5] at hl
      exact i32S (y := 70) hl rfl (by omega) (by omega)
    obtain ⟨hi, lo, ex, g, ag⟩ := AG_root a0 (by omega) z0 e3 e4 hu r1 r2
    exact ⟨hi, lo, ex, g, Out_make ag h0 tl false⟩
end Ops
