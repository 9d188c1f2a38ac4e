/-! Pure rows, 25: operate. -/
def MC (M : Int32 × Int32 × Int32 × Int32 × Int32 × Bool × Int32 × Bool × Int32 × Int64 × Bool × (Nat → Int32) × (Nat → Int64) × (Nat → Bool) × (Nat → Int32) × (Nat → Int64) × (Nat → Bool)) (al : Int32) (mT : Nat → Int32) (mF : Nat → Int64) (k : Nat) (told : Int32) (sp : Bool) (tp : Int32) (fr : Int64) : Prop :=
  M.1 = told ∧ M.2.1 = 0 ∧ M.2.2.1 = (al ||| told) ∧ M.2.2.2.2.2.2.2.2.2.2.2.1 = (if sp = true then mT else upd mT k tp) ∧ M.2.2.2.2.2.2.2.2.2.2.2.2.1 = (if sp = true then mF else vp_updL mF k fr)
section Op
variable {wd al sz1 un : Int32} {mo : Bool} {tl : Int32} {sp : Bool} {tpo : Int32} {fro : Int64} {ly : Bool} {mT : Nat → Int32} {mF : Nat → Int64} {mi : Nat → Bool} {pw : Nat → Int32} {pt : Nat → Int64} {rb : Nat → Bool} {iop ia ib ito : Int32}
theorem j6 : (if (if (6 : Int32) ≤ iop then false else true) = true then (2 : Int32) else 1) = if (6 : Int32) ≤ iop then 1 else 2 := by
  by_cases c : (6 : Int32) ≤ iop
  · rw [if_pos c, if_pos c, if_neg nff]
  · rw [if_neg c, if_neg c, if_pos ytt]
theorem mTail_nn {MI : Nat → Bool} {PW : Nat → Int32} {PT : Nat → Int64} (h : g_M_isNone PW PT 0 = true ∨ (¬ (6 : Int32) ≤ iop ∧ g_M_isNone PW PT 1 = true)) : MC (mTail MI PW PT wd al sz1 un mo tl sp tpo fro ly mT mF rb iop ia ib ito) al mT mF ito.toNatClampNeg (g_M_noNumber wd 0 tpo fro mT mF (T2 mT mF MI PW PT ia ib).2.1 (T2 mT mF MI PW PT ia ib).2.2 (if (6 : Int32) ≤ iop then 1 else 2) ia ib).1 (g_M_noNumber wd 0 tpo fro mT mF (T2 mT mF MI PW PT ia ib).2.1 (T2 mT mF MI PW PT ia ib).2.2 (if (6 : Int32) ≤ iop then 1 else 2) ia ib).2.1 (g_M_noNumber wd 0 tpo fro mT mF (T2 mT mF MI PW PT ia ib).2.1 (T2 mT mF MI PW PT ia ib).2.2 (if (6 : Int32) ≤ iop then 1 else 2) ia ib).2.2.1 (g_M_noNumber wd 0 tpo fro mT mF (T2 mT mF MI PW PT ia ib).2.1 (T2 mT mF MI PW PT ia ib).2.2 (if (6 : Int32) ≤ iop then 1 else 2) ia ib).2.2.2 := by
  have e : ∀ A B : Int32 × Int32 × Int32 × Int32 × Int32 × Bool × Int32 × Bool × Int32 × Int64 × Bool × (Nat → Int32) × (Nat → Int64) × (Nat → Bool) × (Nat → Int32) × (Nat → Int64) × (Nat → Bool), (if (g_M_isNone PW PT 0) = true then A else if (if (6 : Int32) ≤ iop then false else true) = true then if (g_M_isNone PW PT 1) = true then A else B else B) = A := by
    intro A B
    rcases h with h | ⟨h6, h1⟩
    · rw [if_pos h]
    · rw [if_neg h6, if_pos ytt, if_pos h1]
      split <;> rfl
  unfold mTail
  dsimp only
  rw [e, j6]
  have t2 : T2 mT mF MI PW PT ia ib = g_M_take mT mF (g_M_take mT mF MI PW PT 0 ia).1 (g_M_take mT mF MI PW PT 0 ia).2.1 (g_M_take mT mF MI PW PT 0 ia).2.2 1 ib := rfl
  rw [t2]
  generalize g_M_take mT mF (g_M_take mT mF MI PW PT 0 ia).1 (g_M_take mT mF MI PW PT 0 ia).2.1 (g_M_take mT mF MI PW PT 0 ia).2.2 1 ib = T
  generalize g_M_noNumber wd 0 tpo fro mT mF T.2.1 T.2.2 (if (6 : Int32) ≤ iop then 1 else 2) ia ib = z
  obtain ⟨z1, z2, z3, z4⟩ := z
  cases z2
  · exact ⟨rfl, rfl, rfl, rfl, rfl⟩
  · exact ⟨rfl, rfl, rfl, rfl, rfl⟩
theorem mTail_wk {MI : Nat → Bool} {PW : Nat → Int32} {PT : Nat → Int64} (h0 : g_M_isNone PW PT 0 = false) (h1 : ¬ (6 : Int32) ≤ iop → g_M_isNone PW PT 1 = false) : MC (mTail MI PW PT wd al sz1 un mo tl sp tpo fro ly mT mF rb iop ia ib ito) al mT mF ito.toNatClampNeg (g_M_work wd sz1 un mo 0 false tpo fro ly (updB MI 1 (if iop = 1 then if (MI 1) = true then false else true else if iop = 2 then if (MI 1) = true then false else true else (MI 1))) PW PT rb iop).2.2.2.1 (g_M_work wd sz1 un mo 0 false tpo fro ly (updB MI 1 (if iop = 1 then if (MI 1) = true then false else true else if iop = 2 then if (MI 1) = true then false else true else (MI 1))) PW PT rb iop).2.2.2.2.1 (g_M_work wd sz1 un mo 0 false tpo fro ly (updB MI 1 (if iop = 1 then if (MI 1) = true then false else true else if iop = 2 then if (MI 1) = true then false else true else (MI 1))) PW PT rb iop).2.2.2.2.2.1 (g_M_work wd sz1 un mo 0 false tpo fro ly (updB MI 1 (if iop = 1 then if (MI 1) = true then false else true else if iop = 2 then if (MI 1) = true then false else true else (MI 1))) PW PT rb iop).2.2.2.2.2.2.1 := by
  have e : ∀ A B : Int32 × Int32 × Int32 × Int32 × Int32 × Bool × Int32 × Bool × Int32 × Int64 × Bool × (Nat → Int32) × (Nat → Int64) × (Nat → Bool) × (Nat → Int32) × (Nat → Int64) × (Nat → Bool), (if (g_M_isNone PW PT 0) = true then A else if (if (6 : Int32) ≤ iop then false else true) = true then if (g_M_isNone PW PT 1) = true then A else B else B) = B := by
    intro A B
    rw [if_neg (bf h0)]
    by_cases h6 : (6 : Int32) ≤ iop
    · rw [if_pos h6, if_neg nff]
    · rw [if_neg h6, if_pos ytt, if_neg (bf (h1 h6))]
  unfold mTail
  dsimp only
  rw [e, c_1]
  generalize g_M_work wd sz1 un mo 0 false tpo fro ly (updB MI 1 (if iop = 1 then if (MI 1) = true then false else true else if iop = 2 then if (MI 1) = true then false else true else (MI 1))) PW PT rb iop = z
  obtain ⟨z1, z2, z3, z4, z5, z6, z7, z8, z9⟩ := z
  cases z5
  · exact ⟨rfl, rfl, rfl, rfl, rfl⟩
  · exact ⟨rfl, rfl, rfl, rfl, rfl⟩
theorem rg_nn (i : Int32) : g_O_isRegister i = true ↔ ¬ g_M_none i = true := by
  have c : ((8 : Int32) ≤ i) ↔ ¬ i ≤ 7 := by
    rw [Int32.le_iff_toInt_le, Int32.le_iff_toInt_le]
    show (8 : Int) ≤ _ ↔ ¬ _ ≤ (7 : Int)
    omega
  unfold g_O_isRegister g_M_none
  by_cases a : i < 0
  · rw [if_pos a, if_pos a]; decide
  · rw [if_neg a, if_neg a]
    by_cases b : i ≤ 7
    · rw [if_pos b, if_neg (fun w => (c.mp w) b)]; decide
    · rw [if_neg b, if_pos (c.mpr b)]; decide
theorem rg_lt {i : Int32} (h : g_O_isRegister i = true) : i.toNatClampNeg < 8 := by
  unfold g_O_isRegister at h
  by_cases a : i < 0
  · rw [if_pos a] at h; exact absurd h (by decide)
  · rw [if_neg a] at h
    by_cases b : (8 : Int32) ≤ i
    · rw [if_pos b] at h; exact absurd h (by decide)
    · rw [Int32.le_iff_toInt_le] at b
      have b : ¬ (8 : Int) ≤ i.toInt := b
      rw [clamp_is]
      omega
theorem M_1 (h : g_M_none ia = true ∨ g_M_none ib = true ∨ g_M_none ito = true) : g_M_operate wd al sz1 un mo tl sp tpo fro ly mT mF mi pw pt rb iop ia ib ito = (0, 1, al, sz1, un, mo, tl, sp, tpo, fro, ly, mT, mF, mi, pw, pt, rb) := by
  unfold g_M_operate
  by_cases a : g_M_none ia = true
  · rw [if_pos a]
  · rw [if_neg a]
    by_cases b : g_M_none ib = true
    · rw [if_pos b]
    · rw [if_neg b, if_pos ((h.resolve_left a).resolve_left b)]
theorem M_2 (na : ¬ g_M_none ia = true) (nb : ¬ g_M_none ib = true) (nt : ¬ g_M_none ito = true) (h : iop < 0 ∨ ¬ iop ≤ 6) : g_M_operate wd al sz1 un mo tl sp tpo fro ly mT mF mi pw pt rb iop ia ib ito = (0, 2, al, sz1, un, mo, tl, sp, tpo, fro, ly, mT, mF, mi, pw, pt, rb) := by
  unfold g_M_operate
  rw [if_neg na, if_neg nb, if_neg nt]
  by_cases a : iop < 0
  · rw [if_pos a]
  · rw [if_neg a, if_neg (h.resolve_left a)]
variable {cw ts : Int32} {fT : Nat → Int32} {fF : Nat → Int64} {n1 : Bool} {p1 : Int32} {f1 : Int64} {n2 : Bool} {p2 : Int32} {f2 : Int64} {n3 : Bool} {p3 : Int32} {f3 hi lo : Int64} {ex : Int32} {hi2 lo2 : Int64} {ex2 : Int32} {fV : Nat → Int64}
theorem x_1 (h : ¬ g_O_isRegister ia = true ∨ ¬ g_O_isRegister ib = true ∨ ¬ g_O_isRegister ito = true) : x_O_operate cw fT fF n3 p3 f3 hi lo ex hi2 lo2 ex2 iop ia ib ito = 1 := by
  unfold x_O_operate
  by_cases a : g_O_isRegister ia = true
  · rw [if_pos a]
    by_cases b : g_O_isRegister ib = true
    · rw [if_pos b]
      by_cases c : g_O_isRegister ito = true
      · rcases h with h | h | h
        · exact absurd a h
        · exact absurd b h
        · exact absurd c h
      · rw [if_neg c]
    · rw [if_neg b]
  · rw [if_neg a]
theorem x_2 (a : g_O_isRegister ia = true) (b : g_O_isRegister ib = true) (c : g_O_isRegister ito = true) (h : iop < 0 ∨ ¬ iop ≤ 6) : x_O_operate cw fT fF n3 p3 f3 hi lo ex hi2 lo2 ex2 iop ia ib ito = 2 := by
  unfold x_O_operate
  rw [if_pos a, if_pos b, if_pos c]
  by_cases d : iop < 0
  · rw [if_pos d]
  · rw [if_neg d, if_neg (h.resolve_left d)]
theorem x_0 (a : g_O_isRegister ia = true) (b : g_O_isRegister ib = true) (c : g_O_isRegister ito = true) (i0 : ¬ iop < 0) (i6 : iop ≤ 6) : x_O_operate cw fT fF n3 p3 f3 hi lo ex hi2 lo2 ex2 iop ia ib ito = 0 := by
  unfold x_O_operate
  dsimp only
  rw [if_pos a, if_pos b, if_pos c, if_neg i0, if_pos i6]
  split <;> rfl
theorem L_op (a : g_O_isRegister ia = true) (b : g_O_isRegister ib = true) (c : g_O_isRegister ito = true) (i0 : ¬ iop < 0) (i6 : iop ≤ 6) :
    (g_L_operate cw ts fT fF n1 p1 f1 n2 p2 f2 n3 p3 f3 hi lo ex hi2 lo2 ex2 fV iop ia ib ito).1 = 0 ∧ (g_L_operate cw ts fT fF n1 p1 f1 n2 p2 f2 n3 p3 f3 hi lo ex hi2 lo2 ex2 fV iop ia ib ito).2.2.2.2.2.2.2.2.2.2.2.2.2.2.2.2.2.2.2 (0 : Int32).toNatClampNeg = (g_O_carryOut cw (g_O_takeOperands fT fF iop ia ib).1 (g_O_takeOperands fT fF iop ia ib).2.1 (g_O_takeOperands fT fF iop ia ib).2.2.1 (g_O_takeOperands fT fF iop ia ib).2.2.2.1 (g_O_takeOperands fT fF iop ia ib).2.2.2.2.1 (g_O_takeOperands fT fF iop ia ib).2.2.2.2.2 n3 p3 f3 hi lo ex hi2 lo2 ex2 iop).1.toInt64 ∧ (g_L_operate cw ts fT fF n1 p1 f1 n2 p2 f2 n3 p3 f3 hi lo ex hi2 lo2 ex2 fV iop ia ib ito).2.1 = (ts ||| (g_O_carryOut cw (g_O_takeOperands fT fF iop ia ib).1 (g_O_takeOperands fT fF iop ia ib).2.1 (g_O_takeOperands fT fF iop ia ib).2.2.1 (g_O_takeOperands fT fF iop ia ib).2.2.2.1 (g_O_takeOperands fT fF iop ia ib).2.2.2.2.1 (g_O_takeOperands fT fF iop ia ib).2.2.2.2.2 n3 p3 f3 hi lo ex hi2 lo2 ex2 iop).1) ∧ (g_L_operate cw ts fT fF n1 p1 f1 n2 p2 f2 n3 p3 f3 hi lo ex hi2 lo2 ex2 fV iop ia ib ito).2.2.1 = (if g_O_isStopped cw (g_O_carryOut cw (g_O_takeOperands fT fF iop ia ib).1 (g_O_takeOperands fT fF iop ia ib).2.1 (g_O_takeOperands fT fF iop ia ib).2.2.1 (g_O_takeOperands fT fF iop ia ib).2.2.2.1 (g_O_takeOperands fT fF iop ia ib).2.2.2.2.1 (g_O_takeOperands fT fF iop ia ib).2.2.2.2.2 n3 p3 f3 hi lo ex hi2 lo2 ex2 iop).1 = true then fT else upd fT ito.toNatClampNeg (g_R_top (g_O_carryOut cw (g_O_takeOperands fT fF iop ia ib).1 (g_O_takeOperands fT fF iop ia ib).2.1 (g_O_takeOperands fT fF iop ia ib).2.2.1 (g_O_takeOperands fT fF iop ia ib).2.2.2.1 (g_O_takeOperands fT fF iop ia ib).2.2.2.2.1 (g_O_takeOperands fT fF iop ia ib).2.2.2.2.2 n3 p3 f3 hi lo ex hi2 lo2 ex2 iop).2.2.1 (g_O_carryOut cw (g_O_takeOperands fT fF iop ia ib).1 (g_O_takeOperands fT fF iop ia ib).2.1 (g_O_takeOperands fT fF iop ia ib).2.2.1 (g_O_takeOperands fT fF iop ia ib).2.2.2.1 (g_O_takeOperands fT fF iop ia ib).2.2.2.2.1 (g_O_takeOperands fT fF iop ia ib).2.2.2.2.2 n3 p3 f3 hi lo ex hi2 lo2 ex2 iop).2.2.2.1)) ∧ (g_L_operate cw ts fT fF n1 p1 f1 n2 p2 f2 n3 p3 f3 hi lo ex hi2 lo2 ex2 fV iop ia ib ito).2.2.2.1 = (if g_O_isStopped cw (g_O_carryOut cw (g_O_takeOperands fT fF iop ia ib).1 (g_O_takeOperands fT fF iop ia ib).2.1 (g_O_takeOperands fT fF iop ia ib).2.2.1 (g_O_takeOperands fT fF iop ia ib).2.2.2.1 (g_O_takeOperands fT fF iop ia ib).2.2.2.2.1 (g_O_takeOperands fT fF iop ia ib).2.2.2.2.2 n3 p3 f3 hi lo ex hi2 lo2 ex2 iop).1 = true then fF else vp_updL fF ito.toNatClampNeg (g_O_carryOut cw (g_O_takeOperands fT fF iop ia ib).1 (g_O_takeOperands fT fF iop ia ib).2.1 (g_O_takeOperands fT fF iop ia ib).2.2.1 (g_O_takeOperands fT fF iop ia ib).2.2.2.1 (g_O_takeOperands fT fF iop ia ib).2.2.2.2.1 (g_O_takeOperands fT fF iop ia ib).2.2.2.2.2 n3 p3 f3 hi lo ex hi2 lo2 ex2 iop).2.2.2.2.1) := by
  have hx : x_O_operate cw fT fF n3 p3 f3 hi lo ex hi2 lo2 ex2 iop ia ib ito = 0 := x_0 a b c i0 i6
  unfold g_L_operate
  rw [hx, if_neg (by decide), if_neg (by decide)]
  dsimp only
  unfold g_O_operate
  rw [if_pos a, if_pos b, if_pos c, if_neg i0, if_pos i6]
  dsimp only
  generalize g_O_takeOperands fT fF iop ia ib = w
  generalize g_O_carryOut cw w.1 w.2.1 w.2.2.1 w.2.2.2.1 w.2.2.2.2.1 w.2.2.2.2.2 n3 p3 f3 hi lo ex hi2 lo2 ex2 iop = k
  by_cases s : g_O_isStopped cw k.1 = true
  · rw [if_pos s]
    refine ⟨rfl, ?_, rfl, ?_, ?_⟩
    · unfold vp_updL; rw [if_pos rfl]
    · rw [if_pos s]
    · rw [if_pos s]
  · rw [if_neg s]
    refine ⟨rfl, ?_, rfl, ?_, ?_⟩
    · unfold vp_updL; rw [if_pos rfl]
    · rw [if_neg s]
    · rw [if_neg s]
/-- both sides' outcomes agree: so do the registers and what is told -/
theorem fin {said : Int32} {ng : Bool} {pp : Int32} {ff : Int64} {told : Int32} {sp' : Bool} {tp : Int32} {fr : Int64} (k : Nat) (hI : lInv cw ts fT fF wd al mT mF) (hR : Rel wd said ng pp ff told sp' tp fr) : lInv cw (ts ||| said) (if g_O_isStopped cw said = true then fT else upd fT k (g_R_top ng pp)) (if g_O_isStopped cw said = true then fF else vp_updL fF k ff) wd (al ||| told) (if sp' = true then mT else upd mT k tp) (if sp' = true then mF else vp_updL mF k fr) := by
  obtain ⟨i1, i2, i3, i4, i5, i6⟩ := hI
  obtain ⟨r1, r2, r3⟩ := hR
  subst i1
  subst i2
  subst r1
  rw [← r2]
  cases sp'
  · obtain ⟨t1, t2, t3, t4⟩ := r3 rfl
    rw [if_neg nff, if_neg nff, if_neg nff, if_neg nff]
    refine ⟨rfl, rfl, ?_, ?_, i5, i6⟩
    · intro j hj
      unfold upd vp_updL
      by_cases q : j = k
      · rw [if_pos q, if_pos q, if_pos q, if_pos q, t1, t2, top_is t3 t4]
        exact ⟨rfl, rfl⟩
      · rw [if_neg q, if_neg q, if_neg q, if_neg q]
        exact i3 j hj
    · intro j hj
      unfold upd
      by_cases q : j = k
      · rw [if_pos q, t1]
        exact answer_rng t3 t4
      · rw [if_neg q]
        exact i4 j hj
  · rw [if_pos ytt, if_pos ytt, if_pos ytt, if_pos ytt]
    exact ⟨rfl, rfl, i3, i4, i5, i6⟩
/-- no number among the operands -/
theorem nn_rel {pw' : Nat → Int32} {pt' : Nat → Int64} {ict : Int32} {ta tb : Int32} {fa fb : Int64} (ea : mT ia.toNatClampNeg = ta) (eb : mT ib.toNatClampNeg = tb) (ga : mF ia.toNatClampNeg = fa) (gb : mF ib.toNatClampNeg = fb) (oa : okT ta) (ob : okT tb) (q0 : pw' 0 = pwT ta) (q1 : pw' 1 = pwT tb) (q2 : pt' 0 = fa) (q3 : pt' 1 = fb) {pk : Bool} (hpk : (ict = 2 ∧ pk = pick ta tb fa fb) ∨ (¬ ict = 2 ∧ pk = false ∧ g_R_isNoNumber (pwT ta) fa = true)) {ng : Bool} {pp : Int32} {ff : Int64} (hc : (ng, pp, ff) = if pk = true then (sgT tb, pwT tb, fb) else (sgT ta, pwT ta, fa)) :
    Rel wd 1 ng pp ff (g_M_noNumber wd 0 tpo fro mT mF pw' pt' ict ia ib).1 (g_M_noNumber wd 0 tpo fro mT mF pw' pt' ict ia ib).2.1 (g_M_noNumber wd 0 tpo fro mT mF pw' pt' ict ia ib).2.2.1 (g_M_noNumber wd 0 tpo fro mT mF pw' pt' ict ia ib).2.2.2 := by
  have na : g_M_isNone pw' pt' 0 = g_R_isNoNumber (pwT ta) fa := isNone_R q0 q2
  have nb : g_M_isNone pw' pt' 1 = g_R_isNoNumber (pwT tb) fb := isNone_R q1 q3
  have hp : (if ict = 2 then if (g_M_isNone pw' pt' 0) = true then if (g_M_isNone pw' pt' 1) = true then if (pt' (0 : Int32).toNatClampNeg) = (pt' (1 : Int32).toNatClampNeg) then if (mT ia.toNatClampNeg) ≤ 32767 then false else if 32767 < (mT ib.toNatClampNeg) then false else true else (g_M_below (pt' (0 : Int32).toNatClampNeg) (pt' (1 : Int32).toNatClampNeg)) else (if (g_M_isNone pw' pt' 0) = true then false else true) else (if (g_M_isNone pw' pt' 0) = true then false else true) else (if (g_M_isNone pw' pt' 0) = true then false else true)) = pk := by
    rw [na, nb, c_0, c_1, q2, q3, ea, eb]
    rcases hpk with ⟨h2, rfl⟩ | ⟨h2, rfl, hn⟩
    · rw [if_pos h2]
      unfold pick
      by_cases c : g_R_isNoNumber (pwT ta) fa = true
      · rw [if_pos c, if_pos c, if_pos c]
      · rw [if_neg c, if_neg c, if_neg c]
    · rw [if_neg h2, if_pos hn]
  have s1 := stop1 wd
  unfold g_M_noNumber g_M_tell
  dsimp only
  rw [hp]
  have fin9 : (if pk = true then (mT ib.toNatClampNeg) else (mT ia.toNatClampNeg)) = g_M_answer ng pp ∧ (if pk = true then (mF ib.toNatClampNeg) else (mF ia.toNatClampNeg)) = ff ∧ 0 ≤ pp.toInt ∧ pp.toInt ≤ 32767 := by
    rw [ea, eb, ga, gb]
    cases pk
    · rw [if_neg nff] at hc
      obtain ⟨rfl, h2⟩ := Prod.mk.inj hc
      obtain ⟨rfl, rfl⟩ := Prod.mk.inj h2
      rw [if_neg nff, if_neg nff, answer_T oa]
      exact ⟨rfl, rfl, pwT_rng ta⟩
    · rw [if_pos ytt] at hc
      obtain ⟨rfl, h2⟩ := Prod.mk.inj hc
      obtain ⟨rfl, rfl⟩ := Prod.mk.inj h2
      rw [if_pos ytt, if_pos ytt, answer_T ob]
      exact ⟨rfl, rfl, pwT_rng tb⟩
  by_cases m : (wd &&& 1) = 0
  · rw [if_pos m] at s1
    simp only [m, ↓reduceIte, Bool.false_eq_true]
    exact ⟨by decide, s1.symm, fun q => absurd q (by decide)⟩
  · rw [if_neg m] at s1
    simp only [m, ↓reduceIte, Bool.false_eq_true]
    exact ⟨by decide, s1.symm, fun _ => fin9⟩
theorem k_nn {a1 : Bool} {a2 : Int32} {a3 : Int64} {b1 : Bool} {b2 : Int32} {b3 : Int64} (h : g_R_isNoNumber a2 a3 = true ∨ g_R_isNoNumber b2 b3 = true) : ∃ X, g_O_carryOut cw a1 a2 a3 b1 b2 b3 n3 p3 f3 hi lo ex hi2 lo2 ex2 iop = (1, b1, (g_O_answerNoNumber a1 a2 a3 b1 b2 b3).1, (g_O_answerNoNumber a1 a2 a3 b1 b2 b3).2.1, (g_O_answerNoNumber a1 a2 a3 b1 b2 b3).2.2, X) := by
  unfold g_O_carryOut
  by_cases c : g_R_isNoNumber a2 a3 = true
  · rw [if_pos c]
    exact ⟨_, rfl⟩
  · rw [if_neg c, if_pos (h.resolve_left c)]
    exact ⟨_, rfl⟩
end Op
