/-! Pure rows, 20: sums: what comes out. -/
section Sm
variable {pw : Nat → Int32} {pt : Nat → Int64} {mi : Nat → Bool}
/-- where a sum of nothing gets its sign -/
noncomputable def j9 (wd : Int32) (mi : Nat → Bool) (pw : Nat → Int32) (pt : Nat → Int64) (op : Bool) : Bool :=
  if (g_M_isNothing pw pt 0) = true then if (g_M_isNothing pw pt 1) = true then if op = true then (if ((wd / 1024) - (wd / 1024) / 4 * 4) = 1 then true else false) else (mi 0) else (if ((wd / 1024) - (wd / 1024) / 4 * 4) = 1 then true else false) else (if ((wd / 1024) - (wd / 1024) / 4 * 4) = 1 then true else false)
theorem units (a0 : 0 ≤ (pw 0).toInt) (a1 : (pw 0).toInt ≤ 32767) (b0 : 0 ≤ (pw 1).toInt) (b1 : (pw 1).toInt ≤ 32767) :
    ∃ (m : Int32) (x0 x1 n : Nat), (if (g_M_unitOf pw 1) ≤ (g_M_unitOf pw 0) then (g_M_unitOf pw 1) else (g_M_unitOf pw 0)) = m ∧ (g_M_unitOf pw 0) - m = nI x0 ∧ (g_M_unitOf pw 1) - m = nI x1 ∧ ((((g_M_unitOf pw 0) + (g_M_unitOf pw 1)) - (2 * m)) + 66) = nI n ∧ n = x0 + x1 + 66 ∧ n ≤ 33000 ∧ uT (pw 0) = m.toInt + x0 ∧ uT (pw 1) = m.toInt + x1 ∧ -20000 ≤ m.toInt ∧ m.toInt ≤ 20000 := by
  have un0 : (g_M_unitOf pw 0).toInt = uT (pw 0) := M_unit (i := 0) a0 a1
  have un1 : (g_M_unitOf pw 1).toInt = uT (pw 1) := M_unit (i := 1) b0 b1
  have q0 := uT_rng a0 a1
  have q1 := uT_rng b0 b1
  generalize g_M_unitOf pw 0 = A at un0 ⊢
  generalize g_M_unitOf pw 1 = B at un1 ⊢
  have le : (B ≤ A) ↔ uT (pw 1) ≤ uT (pw 0) := by rw [Int32.le_iff_toInt_le, un0, un1]
  have key : ∀ (m : Int32) (x0 x1 : Nat), uT (pw 0) = m.toInt + x0 → uT (pw 1) = m.toInt + x1 → x0 + x1 ≤ 32766 → -20000 ≤ m.toInt → m.toInt ≤ 20000 → A - m = nI x0 ∧ B - m = nI x1 ∧ (((A + B) - (2 * m)) + 66) = nI (x0 + x1 + 66) := by
    intro m x0 x1 h0 h1 hx m0 m1
    have t2 : (2 * m).toInt = 2 * m.toInt := i32_mul (a := 2) (by show -2147483648 ≤ 2 * m.toInt; omega) (by show 2 * m.toInt < 2147483648; omega)
    have s1 : (A + B).toInt = uT (pw 0) + uT (pw 1) := i32A un0 un1 (by omega) (by omega)
    have s2 : ((A + B) - (2 * m)).toInt = uT (pw 0) + uT (pw 1) - 2 * m.toInt := i32S s1 t2 (by omega) (by omega)
    have s3 : (((A + B) - (2 * m)) + 66).toInt = uT (pw 0) + uT (pw 1) - 2 * m.toInt + 66 := i32A s2 rfl (by omega) (by omega)
    have d0 : (A - m).toInt = uT (pw 0) - m.toInt := i32S un0 rfl (by omega) (by omega)
    have d1 : (B - m).toInt = uT (pw 1) - m.toInt := i32S un1 rfl (by omega) (by omega)
    refine ⟨?_, ?_, ?_⟩
    · apply Int32.toInt_inj.mp; rw [d0, nI_toInt (by omega)]; omega
    · apply Int32.toInt_inj.mp; rw [d1, nI_toInt (by omega)]; omega
    · apply Int32.toInt_inj.mp; rw [s3, nI_toInt (by omega)]; omega
  by_cases c : B ≤ A
  · have c' := le.mp c
    have k := key B (uT (pw 0) - uT (pw 1)).toNat 0 (by omega) (by omega) (by omega) (by omega) (by omega)
    exact ⟨B, _, _, _, if_pos c, k.1, k.2.1, k.2.2, rfl, by omega, by omega, by omega, by omega, by omega⟩
  · have c' := mt le.mpr c
    have k := key A 0 (uT (pw 1) - uT (pw 0)).toNat (by omega) (by omega) (by omega) (by omega) (by omega)
    exact ⟨A, _, _, _, if_neg c, k.1, k.2.1, k.2.2, rfl, by omega, by omega, by omega, by omega, by omega⟩
theorem vOf_up {m : Int32} {x U : Nat} {p : Int32} (f : Int64) (h : uT p = m.toInt + x) (hU : m.toInt + 20000 = U) : uN f * 2 ^ x * 2 ^ U = vOf p f := by
  unfold vOf
  rw [Nat.mul_assoc, ← Nat.pow_add]
  congr 1
  exact pow_eq (by omega)
theorem M_sum_is (a0 : 0 ≤ (pw 0).toInt) (a1 : (pw 0).toInt ≤ 32767) (b0 : 0 ≤ (pw 1).toInt) (b1 : (pw 1).toInt ≤ 32767) (wd tl : Int32) (ly : Bool) (rb : Nat → Bool) :
    ∃ (z m : Int32) (row : Nat → Bool), okz z ∧ -20000 ≤ m.toInt ∧ m.toInt ≤ 20000 ∧ bN row z.toInt.toNat * 2 ^ (m.toInt + 20000).toNat = (if mi 0 = mi 1 then vOf (pw 0) (pt 0) + vOf (pw 1) (pt 1) else if vOf (pw 0) (pt 0) < vOf (pw 1) (pt 1) then vOf (pw 1) (pt 1) - vOf (pw 0) (pt 0) else vOf (pw 0) (pt 0) - vOf (pw 1) (pt 1)) ∧
      g_M_sum wd tl ly mi pw pt rb = if g_M_highest z row < 0 then (z, m, tl, g_M_answer (j9 wd mi pw pt (if mi 0 = mi 1 then false else true)) 0, 0, ly, row) else (z, m, (g_M_make wd z m false tl row (if mi 0 = mi 1 then mi 0 else if vOf (pw 0) (pt 0) < vOf (pw 1) (pt 1) then mi 1 else mi 0)).1, (g_M_make wd z m false tl row (if mi 0 = mi 1 then mi 0 else if vOf (pw 0) (pt 0) < vOf (pw 1) (pt 1) then mi 1 else mi 0)).2.1, (g_M_make wd z m false tl row (if mi 0 = mi 1 then mi 0 else if vOf (pw 0) (pt 0) < vOf (pw 1) (pt 1) then mi 1 else mi 0)).2.2.1, (g_M_make wd z m false tl row (if mi 0 = mi 1 then mi 0 else if vOf (pw 0) (pt 0) < vOf (pw 1) (pt 1) then mi 1 else mi 0)).2.2.2, row) := by
  obtain ⟨m, x0, x1, n, hm, h0, h1, hz, hn, hn2, w0, w1, m0, m1⟩ := units a0 a1 b0 b1
  obtain ⟨U, hU⟩ : ∃ U : Nat, m.toInt + 20000 = U := ⟨(m.toInt + 20000).toNat, by omega⟩
  have eU : (m.toInt + 20000).toNat = U := by omega
  have v0 := vOf_up (pt 0) w0 hU
  have v1 := vOf_up (pt 1) w1 hU
  have pU := Nat.two_pow_pos U
  have hl := M_less_is (pt := pt) hm h0 h1 (by omega) (by omega)
  have lt : (uN (pt 0) * 2 ^ x0 < uN (pt 1) * 2 ^ x1) ↔ vOf (pw 0) (pt 0) < vOf (pw 1) (pt 1) := by
    rw [← v0, ← v1]
    exact (Nat.mul_lt_mul_right pU).symm
  rw [decide_eq_decide.mpr lt] at hl
  have okn : okz (nI n) := by
    have t : (nI n).toInt = n := nI_toInt (by omega)
    exact ⟨by omega, by omega⟩
  have tn : (nI n).toInt.toNat = n := by rw [nI_toInt (by omega)]; rfl
  have k0 : b2i false = 0 := rfl
  have k1 : b2i true = 1 := rfl
  have s0 : (1 : Int32) - 0 = 1 := by decide
  have s1 : (1 : Int32) - 1 = 0 := by decide
  have ej : ∀ op : Bool, (if (g_M_isNothing pw pt 0) = true then if (g_M_isNothing pw pt 1) = true then if op = true then (if ((wd / 1024) - (wd / 1024) / 4 * 4) = 1 then true else false) else (mi 0) else (if ((wd / 1024) - (wd / 1024) / 4 * 4) = 1 then true else false) else (if ((wd / 1024) - (wd / 1024) / 4 * 4) = 1 then true else false)) = j9 wd mi pw pt op := fun op => rfl
  by_cases op : mi 0 = mi 1
  · obtain ⟨r, _⟩ := sum_row (rb := rb) hn hn2 (pt 0) (pt 1)
    refine ⟨nI n, m, g_M_join (nI n) (g_M_join (nI n) (g_M_empty rb (nI n)) (pt 0) (nI x0) false) (pt 1) (nI x1) false, okn, m0, m1, ?_, ?_⟩
    · rw [tn, r, eU, Nat.add_mul, v0, v1, if_pos op]
    · unfold g_M_sum
      dsimp only
      rw [c_0, c_1, if_pos op, if_pos op, if_neg nff, k0, s0, c_0, c_1, hm, h0, h1, hz, ej false]
  · by_cases q : vOf (pw 0) (pt 0) < vOf (pw 1) (pt 1)
    · obtain ⟨_, r⟩ := sum_row (rb := rb) (show n = x1 + x0 + 66 by omega) hn2 (pt 1) (pt 0)
      have r := r (Nat.le_of_lt (lt.mpr q))
      rw [decide_eq_true q] at hl
      refine ⟨nI n, m, g_M_join (nI n) (g_M_join (nI n) (g_M_empty rb (nI n)) (pt 1) (nI x1) false) (pt 0) (nI x0) true, okn, m0, m1, ?_, ?_⟩
      · rw [tn, r, eU, Nat.sub_mul, v0, v1, if_neg op, if_pos q]
      · unfold g_M_sum
        dsimp only
        rw [c_0, c_1, if_neg op, if_neg op, if_pos ytt, hl, if_pos ytt, k1, s1, c_0, c_1, hm, h0, h1, hz, ej true, if_pos q]
    · obtain ⟨_, r⟩ := sum_row (rb := rb) hn hn2 (pt 0) (pt 1)
      have r := r (Nat.le_of_not_lt (fun w => q (lt.mp w)))
      rw [decide_eq_false q] at hl
      refine ⟨nI n, m, g_M_join (nI n) (g_M_join (nI n) (g_M_empty rb (nI n)) (pt 0) (nI x0) false) (pt 1) (nI x1) true, okn, m0, m1, ?_, ?_⟩
      · rw [tn, r, eU, Nat.sub_mul, v0, v1, if_neg op, if_neg q]
      · unfold g_M_sum
        dsimp only
        rw [c_0, c_1, if_neg op, if_neg op, if_pos ytt, hl, if_neg nff, k0, s0, c_0, c_1, hm, h0, h1, hz, ej true, if_neg q]
/-- the class's sum, its two sizes taken -/
theorem O_sum_is {cw : Int32} {n1 n2 : Bool} {p1 p2 : Int32} {f1 f2 h1 h2 : Int64} {e1 e2 : Int32} {v1 v2 : Nat} (t1 : g_S_take p1 f1 = (h1, 0, e1)) (t2 : g_S_take p2 f2 = (h2, 0, e2)) (r1 : Rz h1 e1 v1) (r2 : Rz h2 e2 v2) :
    ∃ (hG hL : Int64) (eG eL : Int32) (vG vL : Nat), Rz hG eG vG ∧ Rz hL eL vL ∧ vL ≤ vG ∧ vG + vL = v1 + v2 ∧ vG - vL = (if v1 < v2 then v2 - v1 else v1 - v2) ∧ (vG = vL ↔ v1 = v2) ∧ g_O_computeSum cw n1 p1 f1 n2 p2 f2 h1 0 e1 h2 0 e2 = (if n1 = n2 then ((if v1 < v2 then n2 else n1), (g_S_add hG 0 eG hL 0 eL)) else (if g_S_isZero (g_S_subtract hG 0 eG hL 0 eL).1 (g_S_subtract hG 0 eG hL 0 eL).2.1 = true then (if g_O_rounding cw = 1 then true else false) else (if v1 < v2 then n2 else n1), g_S_subtract hG 0 eG hL 0 eL)) := by
  have hl := less_Rz r1 r2
  by_cases q : v1 < v2
  · refine ⟨h2, h1, e2, e1, v2, v1, r2, r1, by omega, by omega, by rw [if_pos q], by omega, ?_⟩
    rw [decide_eq_true q] at hl
    unfold g_O_computeSum g_O_hasOppositeSigns
    dsimp only
    rw [hl, t1, t2]
    dsimp only
    simp only [↓reduceIte]
    rw [if_pos q]
    by_cases op : n1 = n2
    · rw [if_pos op, if_pos op, if_neg nff]
    · rw [if_neg op, if_neg op, if_pos ytt]
      split
      · split <;> rfl
      · rfl
  · refine ⟨h1, h2, e1, e2, v1, v2, r1, r2, by omega, by omega, by rw [if_neg q], by omega, ?_⟩
    rw [decide_eq_false q] at hl
    unfold g_O_computeSum g_O_hasOppositeSigns
    dsimp only
    rw [hl]
    simp only [Bool.false_eq_true, ↓reduceIte]
    rw [if_neg q]
    by_cases op : n1 = n2
    · rw [if_pos op, if_pos op, if_neg nff]
    · rw [if_neg op, if_neg op, if_pos ytt]
      split
      · split <;> rfl
      · rfl
theorem add_00 (e1 e2 : Int32) (h : e1 = e2) (he : e1 = -20000) : ∃ (hi lo : Int64) (ex : Int32), (∃ X, g_S_add 0 0 e1 0 0 e2 = (hi, lo, ex, X)) ∧ V2 hi lo = 0 := by
  subst h
  subst he
  have v0 : V2 0 0 = 0 := rfl
  obtain ⟨x1, x0, xa, xb⟩ := S_shr 0 0 (-20000) (pl := 1) (n := 1) rfl
  obtain ⟨y1, y0, ya, yb⟩ := S_shr 0 0 (-20000) (pl := (-20000 + 1) - (-20000)) (n := 1) (by decide)
  rw [v0, Nat.zero_div, Nat.zero_mod] at xb yb
  have xb : V2 x1 x0 = 0 := xb
  have yb : V2 y1 y0 = 0 := yb
  have wv := V2_add (a1 := x1) (a0 := x0) (b1 := y1) (b0 := y0) (by rw [xb, yb]; decide)
  rw [xb, yb] at wv
  have wv : V2 (x1 + (y1 + ((b2i (if uN y0 ≤ uN (x0 + y0) then false else true)).toInt64))) (x0 + y0) = 0 := wv
  refine ⟨_, _, -20000, ?_, wv⟩
  unfold g_S_add
  dsimp only
  rw [xa]
  dsimp only
  rw [ya]
  dsimp only
  rw [S_norm0 _ wv]
  exact ⟨_, rfl⟩
theorem sub_00 (e1 e2 : Int32) (h : e1 = e2) (he : e1 = -20000) : ∃ (hi lo : Int64) (ex : Int32), (∃ X, g_S_subtract 0 0 e1 0 0 e2 = (hi, lo, ex, X)) ∧ V2 hi lo = 0 := by
  subst h
  subst he
  have v0 : V2 0 0 = 0 := rfl
  obtain ⟨y1, y0, ya, yb⟩ := S_shr 0 0 (-20000) (pl := (-20000) - (-20000)) (n := 0) (by decide)
  rw [v0, Nat.zero_div, Nat.zero_mod] at yb
  have yb : V2 y1 y0 = 0 := yb
  have wv := V2_sub (a1 := 0) (a0 := 0) (b1 := y1) (b0 := y0) (by rw [yb]; exact Nat.zero_le _)
  rw [v0, yb] at wv
  have wv : V2 (0 - (y1 + ((b2i (if uN y0 ≤ uN 0 then false else true)).toInt64))) (0 - y0) = 0 := wv
  refine ⟨_, _, -20000, ?_, wv⟩
  unfold g_S_subtract
  dsimp only
  rw [ya]
  dsimp only
  rw [S_norm0 _ wv]
  exact ⟨_, rfl⟩
theorem vOf_0 {p : Int32} {f : Int64} (h : vOf p f = 0) : f = 0 := by
  unfold vOf at h
  rcases Nat.mul_eq_zero.mp h with z | z
  · exact uN_z.mpr z
  · have := Nat.two_pow_pos (uT p + 20000).toNat
    omega
theorem sum_both {wd tl : Int32} (a0 : 0 ≤ (pw 0).toInt) (a1 : (pw 0).toInt ≤ 32766) (b0 : 0 ≤ (pw 1).toInt) (b1 : (pw 1).toInt ≤ 32766) (h0 : 0 ≤ wd.toInt) (ly : Bool) (rb : Nat → Bool) :
    ∃ (bs : Bool) (hi lo : Int64) (ex : Int32), (∃ X, g_O_computeSum wd (mi 0) (pw 0) (pt 0) (mi 1) (pw 1) (pt 1) (g_S_take (pw 0) (pt 0)).1 (g_S_take (pw 0) (pt 0)).2.1 (g_S_take (pw 0) (pt 0)).2.2 (g_S_take (pw 1) (pt 1)).1 (g_S_take (pw 1) (pt 1)).2.1 (g_S_take (pw 1) (pt 1)).2.2 = (bs, hi, lo, ex, X)) ∧ Out wd tl bs hi lo ex (g_M_sum wd tl ly mi pw pt rb).2.2.1 (g_M_sum wd tl ly mi pw pt rb).2.2.2.1 (g_M_sum wd tl ly mi pw pt rb).2.2.2.2.1 := by
  obtain ⟨z, m, row, hz, m0, m1, hrow, hM⟩ := M_sum_is (mi := mi) (pt := pt) a0 (show (pw 0).toInt ≤ 32767 by omega) b0 (show (pw 1).toInt ≤ 32767 by omega) wd tl ly rb
  obtain ⟨h1, e1, t1, r1⟩ := take_Rz (f := pt 0) a0 (show (pw 0).toInt ≤ 32767 by omega)
  obtain ⟨h2, e2, t2, r2⟩ := take_Rz (f := pt 1) b0 (show (pw 1).toInt ≤ 32767 by omega)
  obtain ⟨hG, hL, eG, eL, vG, vL, rG, rL, vle, vs, vd, ve, hC⟩ := O_sum_is (cw := wd) (n1 := mi 0) (n2 := mi 1) t1 t2 r1 r2
  have n0 : (g_M_isNothing pw pt 0 = true) ↔ pt 0 = 0 := nothing_is (i := 0) a1
  have n1 : (g_M_isNothing pw pt 1 = true) ↔ pt 1 = 0 := nothing_is (i := 1) b1
  have hh := high_neg hz row
  have pU := Nat.two_pow_pos (m.toInt + 20000).toNat
  have rz : (bN row z.toInt.toNat = 0) ↔ bN row z.toInt.toNat * 2 ^ (m.toInt + 20000).toNat = 0 := by
    constructor
    · intro q; rw [q, Nat.zero_mul]
    · intro q
      rcases Nat.mul_eq_zero.mp q with w | w
      · exact w
      · omega
  have wy : (if ((wd / 1024) - (wd / 1024) / 4 * 4) = 1 then true else false) = (if g_O_rounding wd = 1 then true else false) := by rw [M_way h0, O_way h0]
  rw [t1, t2, hM]
  dsimp only
  rw [hC]
  by_cases op : mi 0 = mi 1
  · rw [if_pos op] at hrow ⊢
    rw [if_pos op, if_pos op]
    rw [← vs] at hrow
    by_cases vz : vG = 0
    · have vz2 : vL = 0 := by omega
      obtain ⟨gz, ge⟩ := Rz_zero rG vz
      obtain ⟨lz, le⟩ := Rz_zero rL vz2
      have bz : bN row z.toInt.toNat = 0 := rz.mpr (by rw [hrow, vz, vz2])
      have f0 : pt 0 = 0 := vOf_0 (p := pw 0) (by omega)
      have f1 : pt 1 = 0 := vOf_0 (p := pw 1) (by omega)
      have nl : ¬ vOf (pw 0) (pt 0) < vOf (pw 1) (pt 1) := by omega
      obtain ⟨hi, lo, ex, ⟨X, gX⟩, gV⟩ := add_00 eG eL (by rw [ge, le]) ge
      refine ⟨mi 0, hi, lo, ex, ?_, ?_⟩
      · rw [gz, lz, gX, if_neg nl]
        exact ⟨_, rfl⟩
      · rw [if_pos (hh.mpr bz)]
        have ej : j9 wd mi pw pt false = mi 0 := by
          unfold j9
          rw [if_pos (n0.mpr f0), if_pos (n1.mpr f1), if_neg nff]
        rw [ej]
        exact Out_zero ex gV wd tl (mi 0)
    · have bz : ¬ bN row z.toInt.toNat = 0 := fun q => by have := rz.mp q; rw [hrow] at this; omega
      obtain ⟨hi, lo, ex, ⟨X, gX⟩, ag⟩ := AG_add rG rL vz vle m0 m1 hz hrow
      refine ⟨mi 0, hi, lo, ex, ?_, ?_⟩
      · rw [gX, ← op]
        have : (if vOf (pw 0) (pt 0) < vOf (pw 1) (pt 1) then mi 0 else mi 0) = mi 0 := by split <;> rfl
        rw [this]
        exact ⟨_, rfl⟩
      · rw [if_neg (fun w => bz (hh.mp w))]
        exact Out_make ag h0 tl (mi 0)
  · rw [if_neg op] at hrow ⊢
    rw [if_neg op, if_neg op]
    rw [← vd] at hrow
    have ej : j9 wd mi pw pt true = (if g_O_rounding wd = 1 then true else false) := by
      unfold j9
      rw [wy]
      split
      · split
        · rw [if_pos ytt]
        · rfl
      · rfl
    by_cases vv : vG = vL
    · have bz : bN row z.toInt.toNat = 0 := rz.mpr (by rw [hrow, vv, Nat.sub_self])
      have sub : ∃ (hi lo : Int64) (ex : Int32), (∃ X, g_S_subtract hG 0 eG hL 0 eL = (hi, lo, ex, X)) ∧ V2 hi lo = 0 := by
        by_cases vz : vG = 0
        · obtain ⟨gz, ge⟩ := Rz_zero rG vz
          obtain ⟨lz, le⟩ := Rz_zero rL (by omega)
          rw [gz, lz]
          exact sub_00 eG eL (by rw [ge, le]) ge
        · exact (AG_sub rG rL vz vle m0 m1 hz hrow).1 vv
      obtain ⟨hi, lo, ex, ⟨X, gX⟩, gV⟩ := sub
      refine ⟨(if g_O_rounding wd = 1 then true else false), hi, lo, ex, ?_, ?_⟩
      · rw [gX]
        dsimp only
        rw [if_pos ((V2_zero hi lo).mpr gV)]
        exact ⟨_, rfl⟩
      · rw [if_pos (hh.mpr bz), ej]
        exact Out_zero ex gV wd tl _
    · have vz : ¬ vG = 0 := by omega
      have bz : ¬ bN row z.toInt.toNat = 0 := fun q => by have := rz.mp q; rw [hrow] at this; omega
      obtain ⟨hi, lo, ex, ⟨X, gX⟩, ag⟩ := (AG_sub rG rL vz vle m0 m1 hz hrow).2 vv
      have hb : 2 ^ 63 ≤ uN hi := ag.2.1
      have nzz : ¬ g_S_isZero hi lo = true := isZero_f (by
        intro w
        rw [uN_z] at w
        rw [w] at hb
        exact absurd hb (by decide)) lo
      refine ⟨(if vOf (pw 0) (pt 0) < vOf (pw 1) (pt 1) then mi 1 else mi 0), hi, lo, ex, ?_, ?_⟩
      · rw [gX]
        dsimp only
        rw [if_neg nzz]
        exact ⟨_, rfl⟩
      · rw [if_neg (fun w => bz (hh.mp w))]
        exact Out_make ag h0 tl _
end Sm
