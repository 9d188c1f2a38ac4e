/-! Pure rows, 26: operate, both sides. -/
theorem updB_0 (f : Nat → Bool) (b : Bool) : updB f 1 b 0 = f 0 := by
  unfold updB
  rw [if_neg (by decide)]
theorem updB_1 (f : Nat → Bool) (b : Bool) : updB f 1 b 1 = b := by
  unfold updB
  rw [if_pos rfl]
section Op2
variable {wd al sz1 un : Int32} {mo : Bool} {tl : Int32} {sp : Bool} {tpo : Int32} {fro : Int64} {ly : Bool} {mT : Nat → Int32} {mF : Nat → Int64} {mi : Nat → Bool} {pw : Nat → Int32} {pt : Nat → Int64} {rb : Nat → Bool} {iop ia ib ito : Int32}
variable {cw ts : Int32} {fT : Nat → Int32} {fF : Nat → Int64} {n1 : Bool} {p1 : Int32} {f1 : Int64} {n2 : Bool} {p2 : Int32} {f2 : Int64} {n3 : Bool} {p3 : Int32} {f3 hi lo : Int64} {ex : Int32} {hi2 lo2 : Int64} {ex2 : Int32} {fV : Nat → Int64}
theorem TO_5 {x y : Int32} (hx : fT x.toNatClampNeg = mT x.toNatClampNeg) (hy : fT y.toNatClampNeg = mT y.toNatClampNeg) (gx : fF x.toNatClampNeg = mF x.toNatClampNeg) (gy : fF y.toNatClampNeg = mF y.toNatClampNeg) (ox : okT (mT x.toNatClampNeg)) (oy : okT (mT y.toNatClampNeg)) (h6 : ¬ iop = 6) (hxy : (iop = 2 ∧ x = ib ∧ y = ia) ∨ (¬ iop = 2 ∧ iop = 5 ∧ x = ib ∧ y = ia) ∨ (¬ iop = 2 ∧ ¬ iop = 5 ∧ x = ia ∧ y = ib)) : g_O_takeOperands fT fF iop ia ib = (sgT (mT x.toNatClampNeg), pwT (mT x.toNatClampNeg), mF x.toNatClampNeg, sgT (mT y.toNatClampNeg), pwT (mT y.toNatClampNeg), mF y.toNatClampNeg) := by
  unfold g_O_takeOperands
  rcases hxy with ⟨h2, rfl, rfl⟩ | ⟨h2, h5, rfl, rfl⟩ | ⟨h2, h5, rfl, rfl⟩
  · rw [if_pos h2, if_neg h6]
    dsimp only
    rw [hx, hy, gx, gy, R_take_is ox, R_take_is oy]
  · rw [if_neg h2, if_pos h5, if_neg h6]
    dsimp only
    rw [hx, hy, gx, gy, R_take_is ox, R_take_is oy]
  · rw [if_neg h2, if_neg h5, if_neg h6]
    dsimp only
    rw [hx, hy, gx, gy, R_take_is ox, R_take_is oy]
theorem TO_6 (hx : fT ia.toNatClampNeg = mT ia.toNatClampNeg) (gx : fF ia.toNatClampNeg = mF ia.toNatClampNeg) (ox : okT (mT ia.toNatClampNeg)) : g_O_takeOperands fT fF 6 ia ib = (sgT (mT ia.toNatClampNeg), pwT (mT ia.toNatClampNeg), mF ia.toNatClampNeg, sgT (mT ia.toNatClampNeg), pwT (mT ia.toNatClampNeg), mF ia.toNatClampNeg) := by
  unfold g_O_takeOperands
  rw [if_neg (by decide), if_neg (by decide), if_pos rfl]
  dsimp only
  rw [hx, gx, R_take_is ox]
theorem op5 {x y : Int32} (hI : lInv cw ts fT fF wd al mT mF) (ra : g_O_isRegister ia = true) (rb' : g_O_isRegister ib = true) (rt : g_O_isRegister ito = true) (hxy : (iop = 2 ∧ x = ib ∧ y = ia) ∨ (¬ iop = 2 ∧ iop = 5 ∧ x = ib ∧ y = ia) ∨ (¬ iop = 2 ∧ ¬ iop = 5 ∧ x = ia ∧ y = ib)) (hop : (iop = 0 ∨ iop = 1 ∨ iop = 2) ∨ iop = 3 ∨ (iop = 4 ∨ iop = 5)) :
    ∃ (told : Int32) (sp' : Bool) (tp : Int32) (fr : Int64), MC (g_M_operate wd al sz1 un mo tl sp tpo fro ly mT mF mi pw pt rb iop ia ib ito) al mT mF ito.toNatClampNeg told sp' tp fr ∧ Rel wd (g_O_carryOut cw (g_O_takeOperands fT fF iop ia ib).1 (g_O_takeOperands fT fF iop ia ib).2.1 (g_O_takeOperands fT fF iop ia ib).2.2.1 (g_O_takeOperands fT fF iop ia ib).2.2.2.1 (g_O_takeOperands fT fF iop ia ib).2.2.2.2.1 (g_O_takeOperands fT fF iop ia ib).2.2.2.2.2 n3 p3 f3 hi lo ex hi2 lo2 ex2 iop).1 (g_O_carryOut cw (g_O_takeOperands fT fF iop ia ib).1 (g_O_takeOperands fT fF iop ia ib).2.1 (g_O_takeOperands fT fF iop ia ib).2.2.1 (g_O_takeOperands fT fF iop ia ib).2.2.2.1 (g_O_takeOperands fT fF iop ia ib).2.2.2.2.1 (g_O_takeOperands fT fF iop ia ib).2.2.2.2.2 n3 p3 f3 hi lo ex hi2 lo2 ex2 iop).2.2.1 (g_O_carryOut cw (g_O_takeOperands fT fF iop ia ib).1 (g_O_takeOperands fT fF iop ia ib).2.1 (g_O_takeOperands fT fF iop ia ib).2.2.1 (g_O_takeOperands fT fF iop ia ib).2.2.2.1 (g_O_takeOperands fT fF iop ia ib).2.2.2.2.1 (g_O_takeOperands fT fF iop ia ib).2.2.2.2.2 n3 p3 f3 hi lo ex hi2 lo2 ex2 iop).2.2.2.1 (g_O_carryOut cw (g_O_takeOperands fT fF iop ia ib).1 (g_O_takeOperands fT fF iop ia ib).2.1 (g_O_takeOperands fT fF iop ia ib).2.2.1 (g_O_takeOperands fT fF iop ia ib).2.2.2.1 (g_O_takeOperands fT fF iop ia ib).2.2.2.2.1 (g_O_takeOperands fT fF iop ia ib).2.2.2.2.2 n3 p3 f3 hi lo ex hi2 lo2 ex2 iop).2.2.2.2.1 told sp' tp fr := by
  obtain ⟨i1, i2, i3, i4, i5, i6⟩ := hI
  have la := rg_lt ra
  have lb := rg_lt rb'
  have h6 : ¬ (6 : Int32) ≤ iop := by rcases hop with (rfl | rfl | rfl) | rfl | (rfl | rfl) <;> decide
  have h6' : ¬ iop = 6 := by rcases hop with (rfl | rfl | rfl) | rfl | (rfl | rfl) <;> decide
  have i0' : ¬ iop < 0 := by rcases hop with (rfl | rfl | rfl) | rfl | (rfl | rfl) <;> decide
  have i6' : iop ≤ 6 := by rcases hop with (rfl | rfl | rfl) | rfl | (rfl | rfl) <;> decide
  have oka : okT (mT ia.toNatClampNeg) := i4 _ la
  have okb : okT (mT ib.toNatClampNeg) := i4 _ lb
  have lx : x.toNatClampNeg < 8 := by rcases hxy with ⟨_, h, _⟩ | ⟨_, _, h, _⟩ | ⟨_, _, h, _⟩ <;> rw [h] <;> assumption
  have ly' : y.toNatClampNeg < 8 := by rcases hxy with ⟨_, _, h⟩ | ⟨_, _, _, h⟩ | ⟨_, _, _, h⟩ <;> rw [h] <;> assumption
  have okx : okT (mT x.toNatClampNeg) := i4 _ lx
  have oky : okT (mT y.toNatClampNeg) := i4 _ ly'
  have hTO := TO_5 (i3 _ lx).1 (i3 _ ly').1 (i3 _ lx).2 (i3 _ ly').2 okx oky h6' hxy
  rw [hTO, i1]
  dsimp only
  rw [M_op ((rg_nn ia).mp ra) ((rg_nn ib).mp rb') ((rg_nn ito).mp rt) i0' i6' hxy]
  obtain ⟨t1, t2, t3, t4, t5, t6⟩ := T2_is (mF := mF) (mi := mi) (pw := pw) (pt := pt) okx oky
  generalize T2 mT mF mi pw pt x y = T at t1 t2 t3 t4 t5 t6 ⊢
  have e0 : g_M_isNone T.2.1 T.2.2 0 = g_R_isNoNumber (pwT (mT x.toNatClampNeg)) (mF x.toNatClampNeg) := isNone_R t3 t5
  have e1 : g_M_isNone T.2.1 T.2.2 1 = g_R_isNoNumber (pwT (mT y.toNatClampNeg)) (mF y.toNatClampNeg) := isNone_R t4 t6
  by_cases nn : g_R_isNoNumber (pwT (mT x.toNatClampNeg)) (mF x.toNatClampNeg) = true ∨ g_R_isNoNumber (pwT (mT y.toNatClampNeg)) (mF y.toNatClampNeg) = true
  · refine ⟨_, _, _, _, mTail_nn (by rcases nn with h | h
                                     · exact Or.inl (e0.trans h)
                                     · exact Or.inr ⟨h6, e1.trans h⟩), ?_⟩
    obtain ⟨X, hk⟩ := k_nn (cw := wd) (n3 := n3) (p3 := p3) (f3 := f3) (hi := hi) (lo := lo) (ex := ex) (hi2 := hi2) (lo2 := lo2) (ex2 := ex2) (iop := iop) (a1 := sgT (mT x.toNatClampNeg)) (b1 := sgT (mT y.toNatClampNeg)) nn
    rw [hk, if_neg h6]
    dsimp only
    obtain ⟨_, _, u3, u4, u5, u6⟩ := T2_is (mF := mF) (mi := T.1) (pw := T.2.1) (pt := T.2.2) oka okb
    refine nn_rel rfl rfl rfl rfl oka okb u3 u4 u5 u6 (Or.inl ⟨rfl, rfl⟩) ?_
    rcases hxy with ⟨_, rfl, rfl⟩ | ⟨_, _, rfl, rfl⟩ | ⟨_, _, rfl, rfl⟩
    · exact (pick_is _ _ _ _ nn.symm).2
    · exact (pick_is _ _ _ _ nn.symm).2
    · exact (pick_is _ _ _ _ nn).1
  · have n0 : g_R_isNoNumber (pwT (mT x.toNatClampNeg)) (mF x.toNatClampNeg) = false := by
      cases h : g_R_isNoNumber (pwT (mT x.toNatClampNeg)) (mF x.toNatClampNeg)
      · rfl
      · exact absurd (Or.inl h) nn
    have n1 : g_R_isNoNumber (pwT (mT y.toNatClampNeg)) (mF y.toNatClampNeg) = false := by
      cases h : g_R_isNoNumber (pwT (mT y.toNatClampNeg)) (mF y.toNatClampNeg)
      · rfl
      · exact absurd (Or.inr h) nn
    refine ⟨_, _, _, _, mTail_wk (e0.trans n0) (fun _ => e1.trans n1), ?_⟩
    obtain ⟨m, hm⟩ : ∃ m, updB T.1 1 (if iop = 1 then if (T.1 1) = true then false else true else if iop = 2 then if (T.1 1) = true then false else true else (T.1 1)) = m := ⟨_, rfl⟩
    have m0 : m 0 = sgT (mT x.toNatClampNeg) := by rw [← hm, updB_0, t1]
    have m1 : m 1 = (if iop = 1 then if (sgT (mT y.toNatClampNeg)) = true then false else true else if iop = 2 then if (sgT (mT y.toNatClampNeg)) = true then false else true else sgT (mT y.toNatClampNeg)) := by rw [← hm, updB_1, t2]
    rw [hm]
    have hj : (if (g_O_isDifference iop) = true then if (sgT (mT y.toNatClampNeg)) = true then false else true else (sgT (mT y.toNatClampNeg))) = m 1 := by
      rw [m1]
      rcases hop with (rfl | rfl | rfl) | rfl | (rfl | rfl) <;> rfl
    have rx := pwT_rng (mT x.toNatClampNeg)
    have ry := pwT_rng (mT y.toNatClampNeg)
    rw [← t3] at rx
    rw [← t4] at ry
    rw [← t3, ← t5] at n0 ⊢
    rw [← t4, ← t6] at n1 ⊢
    rw [← m0]
    have hwr : g_M_isWrong wd m T.2.1 T.2.2 iop = g_O_isInvalid wd (m 0) (T.2.1 0) (T.2.2 0) (m 1) (T.2.1 1) (T.2.2 1) iop := by
      rcases hop with h | h | h
      · refine wrong_sum ?_ ?_ h6'
        · rcases h with rfl | rfl | rfl <;> decide
        · rcases h with rfl | rfl | rfl <;> decide
      · rw [h]; exact wrong_prod
      · exact wrong_quo h
    refine work5 hj hwr h6 n0 n1 n3 p3 f3 hi lo ex hi2 lo2 ex2 sz1 un mo tpo fro ly rb ?_
    intro _ t ht hs
    rcases hop with h | h | h
    · refine tail_sum ?_ ?_ ?_ ?_ ?_ h6' rx.1 rx.2 ry.1 ry.2 n0 n1 i5 ht hs hi lo ex hi2 lo2 ex2 sz1 un mo 0 false tpo fro ly rb
      · rcases h with rfl | rfl | rfl <;> decide
      · rcases h with rfl | rfl | rfl <;> decide
      · rcases h with rfl | rfl | rfl <;> decide
      · rcases h with rfl | rfl | rfl <;> decide
      · rcases h with rfl | rfl | rfl <;> decide
    · exact tail_prod rx.1 rx.2 ry.1 ry.2 i5 ht hs hi lo ex hi2 lo2 ex2 sz1 un mo 0 false tpo fro ly rb h
    · exact tail_quo rx.1 rx.2 ry.1 ry.2 n0 n1 i5 ht hs hi lo ex hi2 lo2 ex2 sz1 un mo 0 false tpo fro ly rb h
theorem op6 (hI : lInv cw ts fT fF wd al mT mF) (ra : g_O_isRegister ia = true) (rb' : g_O_isRegister ib = true) (rt : g_O_isRegister ito = true) :
    ∃ (told : Int32) (sp' : Bool) (tp : Int32) (fr : Int64), MC (g_M_operate wd al sz1 un mo tl sp tpo fro ly mT mF mi pw pt rb 6 ia ib ito) al mT mF ito.toNatClampNeg told sp' tp fr ∧ Rel wd (g_O_carryOut cw (g_O_takeOperands fT fF 6 ia ib).1 (g_O_takeOperands fT fF 6 ia ib).2.1 (g_O_takeOperands fT fF 6 ia ib).2.2.1 (g_O_takeOperands fT fF 6 ia ib).2.2.2.1 (g_O_takeOperands fT fF 6 ia ib).2.2.2.2.1 (g_O_takeOperands fT fF 6 ia ib).2.2.2.2.2 n3 p3 f3 hi lo ex hi2 lo2 ex2 6).1 (g_O_carryOut cw (g_O_takeOperands fT fF 6 ia ib).1 (g_O_takeOperands fT fF 6 ia ib).2.1 (g_O_takeOperands fT fF 6 ia ib).2.2.1 (g_O_takeOperands fT fF 6 ia ib).2.2.2.1 (g_O_takeOperands fT fF 6 ia ib).2.2.2.2.1 (g_O_takeOperands fT fF 6 ia ib).2.2.2.2.2 n3 p3 f3 hi lo ex hi2 lo2 ex2 6).2.2.1 (g_O_carryOut cw (g_O_takeOperands fT fF 6 ia ib).1 (g_O_takeOperands fT fF 6 ia ib).2.1 (g_O_takeOperands fT fF 6 ia ib).2.2.1 (g_O_takeOperands fT fF 6 ia ib).2.2.2.1 (g_O_takeOperands fT fF 6 ia ib).2.2.2.2.1 (g_O_takeOperands fT fF 6 ia ib).2.2.2.2.2 n3 p3 f3 hi lo ex hi2 lo2 ex2 6).2.2.2.1 (g_O_carryOut cw (g_O_takeOperands fT fF 6 ia ib).1 (g_O_takeOperands fT fF 6 ia ib).2.1 (g_O_takeOperands fT fF 6 ia ib).2.2.1 (g_O_takeOperands fT fF 6 ia ib).2.2.2.1 (g_O_takeOperands fT fF 6 ia ib).2.2.2.2.1 (g_O_takeOperands fT fF 6 ia ib).2.2.2.2.2 n3 p3 f3 hi lo ex hi2 lo2 ex2 6).2.2.2.2.1 told sp' tp fr := by
  obtain ⟨i1, i2, i3, i4, i5, i6⟩ := hI
  have la := rg_lt ra
  have lb := rg_lt rb'
  have oka : okT (mT ia.toNatClampNeg) := i4 _ la
  have okb : okT (mT ib.toNatClampNeg) := i4 _ lb
  have hTO := TO_6 (ib := ib) (i3 _ la).1 (i3 _ la).2 oka
  rw [hTO, i1]
  dsimp only
  have h66 : (6 : Int32) ≤ 6 := by decide
  rw [M_op (x := ia) (y := ib) ((rg_nn ia).mp ra) ((rg_nn ib).mp rb') ((rg_nn ito).mp rt) (by decide) (by decide) (Or.inr (Or.inr ⟨by decide, by decide, rfl, rfl⟩))]
  obtain ⟨t1, t2, t3, t4, t5, t6⟩ := T2_is (mF := mF) (mi := mi) (pw := pw) (pt := pt) oka okb
  generalize T2 mT mF mi pw pt ia ib = T at t1 t2 t3 t4 t5 t6 ⊢
  have e0 : g_M_isNone T.2.1 T.2.2 0 = g_R_isNoNumber (pwT (mT ia.toNatClampNeg)) (mF ia.toNatClampNeg) := isNone_R t3 t5
  cases n0 : g_R_isNoNumber (pwT (mT ia.toNatClampNeg)) (mF ia.toNatClampNeg)
  · refine ⟨_, _, _, _, mTail_wk (e0.trans n0) (fun w => absurd h66 w), ?_⟩
    obtain ⟨m, hm⟩ : ∃ m, updB T.1 1 (if (6 : Int32) = 1 then if (T.1 1) = true then false else true else if (6 : Int32) = 2 then if (T.1 1) = true then false else true else (T.1 1)) = m := ⟨_, rfl⟩
    have m0 : m 0 = sgT (mT ia.toNatClampNeg) := by rw [← hm, updB_0, t1]
    rw [hm]
    have rx := pwT_rng (mT ia.toNatClampNeg)
    rw [← t3] at rx
    rw [← t3, ← t5] at n0 ⊢
    rw [← m0]
    exact work6 rx.1 rx.2 i5 n0 n3 p3 f3 hi lo ex hi2 lo2 ex2 sz1 un mo tpo fro ly rb
  · refine ⟨_, _, _, _, mTail_nn (Or.inl (e0.trans n0)), ?_⟩
    obtain ⟨X, hk⟩ := k_nn (cw := wd) (n3 := n3) (p3 := p3) (f3 := f3) (hi := hi) (lo := lo) (ex := ex) (hi2 := hi2) (lo2 := lo2) (ex2 := ex2) (iop := 6) (a1 := sgT (mT ia.toNatClampNeg)) (b1 := sgT (mT ia.toNatClampNeg)) (b2 := pwT (mT ia.toNatClampNeg)) (b3 := mF ia.toNatClampNeg) (Or.inl n0)
    rw [hk, if_pos h66]
    dsimp only
    obtain ⟨_, _, u3, u4, u5, u6⟩ := T2_is (mF := mF) (mi := T.1) (pw := T.2.1) (pt := T.2.2) oka okb
    refine nn_rel rfl rfl rfl rfl oka okb u3 u4 u5 u6 (Or.inr ⟨by decide, rfl, n0⟩) ?_
    rw [if_neg nff]
    have ir : ¬ uN (mF ia.toNatClampNeg) < uN (mF ia.toNatClampNeg) := Nat.lt_irrefl _
    show g_O_answerNoNumber (sgT (mT ia.toNatClampNeg)) (pwT (mT ia.toNatClampNeg)) (mF ia.toNatClampNeg) (sgT (mT ia.toNatClampNeg)) (pwT (mT ia.toNatClampNeg)) (mF ia.toNatClampNeg) = _
    unfold g_O_answerNoNumber
    simp only [n0, ↓reduceIte, ir]
    cases sgT (mT ia.toNatClampNeg) <;> rfl
end Op2
theorem iop_vals {i : Int32} (h0 : ¬ i < 0) (h6 : i ≤ 6) : ((i = 0 ∨ i = 1 ∨ i = 2) ∨ i = 3 ∨ (i = 4 ∨ i = 5)) ∨ i = 6 := by
  rw [Int32.lt_iff_toInt_lt] at h0
  rw [Int32.le_iff_toInt_le] at h6
  have h0 : ¬ i.toInt < 0 := h0
  have h6 : i.toInt ≤ 6 := h6
  have k : ∀ j : Int32, i.toInt = j.toInt → i = j := fun j w => Int32.toInt_inj.mp w
  rcases (show i.toInt = 0 ∨ i.toInt = 1 ∨ i.toInt = 2 ∨ i.toInt = 3 ∨ i.toInt = 4 ∨ i.toInt = 5 ∨ i.toInt = 6 by omega) with w | w | w | w | w | w | w
  · exact Or.inl (Or.inl (Or.inl (k 0 w)))
  · exact Or.inl (Or.inl (Or.inr (Or.inl (k 1 w))))
  · exact Or.inl (Or.inl (Or.inr (Or.inr (k 2 w))))
  · exact Or.inl (Or.inr (Or.inl (k 3 w)))
  · exact Or.inl (Or.inr (Or.inr (Or.inl (k 4 w))))
  · exact Or.inl (Or.inr (Or.inr (Or.inr (k 5 w))))
  · exact Or.inr (k 6 w)
theorem operate_is : lp_operate_is := by
  unfold lp_operate_is
  intro cw ts fT fF n1 p1 f1 n2 p2 f2 n3 p3 f3 hi lo ex hi2 lo2 ex2 cd wd al sz1 un mo tl sp tpo fro ly mT mF mi pw pt rb fV hI iop ia ib ito
  by_cases rg : g_O_isRegister ia = true ∧ g_O_isRegister ib = true ∧ g_O_isRegister ito = true
  · obtain ⟨ra, rb', rt⟩ := rg
    by_cases ip : ¬ iop < 0 ∧ iop ≤ 6
    · obtain ⟨i0, i6⟩ := ip
      have key : ∃ (told : Int32) (sp' : Bool) (tp : Int32) (fr : Int64), MC (g_M_operate wd al sz1 un mo tl sp tpo fro ly mT mF mi pw pt rb iop ia ib ito) al mT mF ito.toNatClampNeg told sp' tp fr ∧ Rel wd (g_O_carryOut cw (g_O_takeOperands fT fF iop ia ib).1 (g_O_takeOperands fT fF iop ia ib).2.1 (g_O_takeOperands fT fF iop ia ib).2.2.1 (g_O_takeOperands fT fF iop ia ib).2.2.2.1 (g_O_takeOperands fT fF iop ia ib).2.2.2.2.1 (g_O_takeOperands fT fF iop ia ib).2.2.2.2.2 n3 p3 f3 hi lo ex hi2 lo2 ex2 iop).1 (g_O_carryOut cw (g_O_takeOperands fT fF iop ia ib).1 (g_O_takeOperands fT fF iop ia ib).2.1 (g_O_takeOperands fT fF iop ia ib).2.2.1 (g_O_takeOperands fT fF iop ia ib).2.2.2.1 (g_O_takeOperands fT fF iop ia ib).2.2.2.2.1 (g_O_takeOperands fT fF iop ia ib).2.2.2.2.2 n3 p3 f3 hi lo ex hi2 lo2 ex2 iop).2.2.1 (g_O_carryOut cw (g_O_takeOperands fT fF iop ia ib).1 (g_O_takeOperands fT fF iop ia ib).2.1 (g_O_takeOperands fT fF iop ia ib).2.2.1 (g_O_takeOperands fT fF iop ia ib).2.2.2.1 (g_O_takeOperands fT fF iop ia ib).2.2.2.2.1 (g_O_takeOperands fT fF iop ia ib).2.2.2.2.2 n3 p3 f3 hi lo ex hi2 lo2 ex2 iop).2.2.2.1 (g_O_carryOut cw (g_O_takeOperands fT fF iop ia ib).1 (g_O_takeOperands fT fF iop ia ib).2.1 (g_O_takeOperands fT fF iop ia ib).2.2.1 (g_O_takeOperands fT fF iop ia ib).2.2.2.1 (g_O_takeOperands fT fF iop ia ib).2.2.2.2.1 (g_O_takeOperands fT fF iop ia ib).2.2.2.2.2 n3 p3 f3 hi lo ex hi2 lo2 ex2 iop).2.2.2.2.1 told sp' tp fr := by
        rcases iop_vals i0 i6 with hop | h6
        · by_cases h2 : iop = 2
          · exact op5 (x := ib) (y := ia) hI ra rb' rt (Or.inl ⟨h2, rfl, rfl⟩) hop
          · by_cases h5 : iop = 5
            · exact op5 (x := ib) (y := ia) hI ra rb' rt (Or.inr (Or.inl ⟨h2, h5, rfl, rfl⟩)) hop
            · exact op5 (x := ia) (y := ib) hI ra rb' rt (Or.inr (Or.inr ⟨h2, h5, rfl, rfl⟩)) hop
        · rw [h6]
          exact op6 hI ra rb' rt
      obtain ⟨told, sp', tp, fr, ⟨m1, m2, m3, m4, m5⟩, hR⟩ := key
      obtain ⟨l1, l2, l3, l4, l5⟩ := L_op (cw := cw) (ts := ts) (fT := fT) (fF := fF) (n1 := n1) (p1 := p1) (f1 := f1) (n2 := n2) (p2 := p2) (f2 := f2) (n3 := n3) (p3 := p3) (f3 := f3) (hi := hi) (lo := lo) (ex := ex) (hi2 := hi2) (lo2 := lo2) (ex2 := ex2) (fV := fV) ra rb' rt i0 i6
      refine ⟨?_, ?_, ?_⟩
      · rw [l1, m2]
      · intro _
        rw [l2, m1, hR.1]
      · rw [l3, l4, l5, m3, m4, m5]
        exact fin ito.toNatClampNeg hI hR
    · have bad : iop < 0 ∨ ¬ iop ≤ 6 := by
        by_cases c : iop < 0
        · exact Or.inl c
        · exact Or.inr (fun w => ip ⟨c, w⟩)
      rw [M_2 ((rg_nn ia).mp ra) ((rg_nn ib).mp rb') ((rg_nn ito).mp rt) bad]
      unfold g_L_operate
      rw [x_2 ra rb' rt bad, if_neg (by decide), if_pos rfl]
      exact ⟨rfl, fun w => absurd (show (2 : Int32) = 0 from w) (by decide), hI⟩
  · have nr : ¬ g_O_isRegister ia = true ∨ ¬ g_O_isRegister ib = true ∨ ¬ g_O_isRegister ito = true := by
      by_cases a : g_O_isRegister ia = true
      · by_cases b : g_O_isRegister ib = true
        · exact Or.inr (Or.inr (fun c => rg ⟨a, b, c⟩))
        · exact Or.inr (Or.inl b)
      · exact Or.inl a
    have nm : g_M_none ia = true ∨ g_M_none ib = true ∨ g_M_none ito = true := by
      have z : ∀ i : Int32, ¬ g_O_isRegister i = true → g_M_none i = true := fun i w => Classical.byContradiction (fun q => w ((rg_nn i).mpr q))
      rcases nr with h | h | h
      · exact Or.inl (z _ h)
      · exact Or.inr (Or.inl (z _ h))
      · exact Or.inr (Or.inr (z _ h))
    rw [M_1 nm]
    unfold g_L_operate
    rw [x_1 nr, if_pos rfl]
    exact ⟨rfl, fun w => absurd (show (1 : Int32) = 0 from w) (by decide), hI⟩
