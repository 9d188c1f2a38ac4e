/-! Pure rows, 24: registers' tops; no numbers. -/
def sgT (t : Int32) : Bool := decide (32767 < t.toInt)
def pwT (t : Int32) : Int32 := nI (t.toInt.toNat % 32768)
def okT (t : Int32) : Prop := 0 ≤ t.toInt ∧ t.toInt ≤ 65535
theorem pwT_rng (t : Int32) : 0 ≤ (pwT t).toInt ∧ (pwT t).toInt ≤ 32767 := by
  have l : t.toInt.toNat % 32768 < 32768 := Nat.mod_lt _ (by decide)
  unfold pwT
  rw [nI_toInt (by omega)]
  omega
theorem nI_bv {n : Nat} (h : n < 2 ^ 31) : (nI n).toBitVec.toNat = n := by
  show (BitVec.ofNat 32 n).toNat = n
  rw [BitVec.toNat_ofNat]
  exact Nat.mod_eq_of_lt (by omega)
theorem nI_and {a b : Nat} (ha : a < 2 ^ 31) (hb : b < 2 ^ 31) : nI a &&& nI b = nI (a &&& b) := by
  apply Int32.toBitVec_inj.mp
  apply BitVec.eq_of_toNat_eq
  have l : a &&& b < 2 ^ 31 := Nat.lt_of_le_of_lt Nat.and_le_left ha
  rw [nI_bv l]
  show ((nI a).toBitVec &&& (nI b).toBitVec).toNat = _
  rw [BitVec.toNat_and, nI_bv ha, nI_bv hb]
theorem nI_or {a b : Nat} (ha : a < 2 ^ 31) (hb : b < 2 ^ 31) : nI a ||| nI b = nI (a ||| b) := by
  apply Int32.toBitVec_inj.mp
  apply BitVec.eq_of_toNat_eq
  have l : a ||| b < 2 ^ 31 := Nat.or_lt_two_pow ha hb
  rw [nI_bv l]
  show ((nI a).toBitVec ||| (nI b).toBitVec).toNat = _
  rw [BitVec.toNat_or, nI_bv ha, nI_bv hb]
theorem and_15 {n : Nat} (h : n ≤ 65535) : (n &&& 2 ^ 15 = 0) ↔ n < 32768 := by
  have t := tb_is n 15
  have p15 : (2 : Nat) ^ 15 = 32768 := by decide
  rw [p15] at t
  constructor
  · intro q
    apply Classical.byContradiction
    intro w
    have b : n.testBit 15 = true := t.mpr (by omega)
    have e : (n &&& 2 ^ 15).testBit 15 = true := by rw [Nat.testBit_and, b, Nat.testBit_two_pow_self]; rfl
    rw [q, Nat.zero_testBit] at e
    exact absurd e (by decide)
  · intro q
    have b : n.testBit 15 = false := Nat.testBit_lt_two_pow (by rw [p15]; exact q)
    apply Nat.eq_of_testBit_eq
    intro i
    rw [Nat.testBit_and, Nat.zero_testBit]
    by_cases c : i = 15
    · rw [c, b]; rfl
    · rw [Nat.testBit_two_pow_of_ne (fun w => c w.symm), Bool.and_false]
theorem nI_z {n : Nat} (h : n < 2 ^ 31) : (nI n = 0) ↔ n = 0 := by
  constructor
  · intro q
    have := congrArg Int32.toInt q
    rw [nI_toInt h] at this
    have : (n : Int) = 0 := this
    omega
  · intro q; rw [q]; rfl
theorem R_take_is {t : Int32} (h : okT t) : g_R_take t = (sgT t, pwT t) := by
  obtain ⟨n, e, ti, hn⟩ := nI_word h.1
  have h2 := h.2
  rw [ti] at h2
  have a1 : t &&& 32768 = nI (n &&& 2 ^ 15) := by rw [e]; exact nI_and hn (b := 32768) (by decide)
  have a2 : t &&& 32767 = nI (n % 32768) := by
    rw [e]
    have := nI_and hn (b := 32767) (by decide)
    have m : n &&& 32767 = n % 32768 := Nat.and_two_pow_sub_one_eq_mod n 15
    rw [m] at this
    exact this
  have l : n &&& 2 ^ 15 < 2 ^ 31 := Nat.lt_of_le_of_lt Nat.and_le_left hn
  have z := and_15 (n := n) (by omega)
  unfold g_R_take sgT pwT
  dsimp only
  rw [a1, a2, ti, Int.toNat_natCast]
  by_cases c : n < 32768
  · rw [if_pos ((nI_z l).mpr (z.mpr c)), decide_eq_false (by omega)]
  · rw [if_neg (fun w => c (z.mp ((nI_z l).mp w))), decide_eq_true (by omega)]
theorem M_take_is (mT : Nat → Int32) (mF : Nat → Int64) (mi : Nat → Bool) (pw : Nat → Int32) (pt : Nat → Int64) (ii ir : Int32) (h : okT (mT ir.toNatClampNeg)) : g_M_take mT mF mi pw pt ii ir = (updB mi ii.toNatClampNeg (sgT (mT ir.toNatClampNeg)), upd pw ii.toNatClampNeg (pwT (mT ir.toNatClampNeg)), vp_updL pt ii.toNatClampNeg (mF ir.toNatClampNeg)) := by
  unfold g_M_take
  dsimp only
  generalize mT ir.toNatClampNeg = t at h
  obtain ⟨n, e, ti, hn⟩ := nI_word h.1
  have h2 := h.2
  rw [ti] at h2
  have a1 : (if t ≤ 32767 then false else true) = sgT t := by
    unfold sgT
    rw [ti]
    have c : (t ≤ 32767) ↔ (n : Int) ≤ 32767 := by rw [Int32.le_iff_toInt_le, ti]; rfl
    by_cases q : t ≤ 32767
    · have := c.mp q
      rw [if_pos q, decide_eq_false (by omega)]
    · have := mt c.mpr q
      rw [if_neg q, decide_eq_true (by omega)]
  have a2 : (t - t / 32768 * 32768) = pwT t := by
    unfold pwT
    rw [ti, Int.toNat_natCast, e]
    have d : nI n / nI 32768 = nI (n / 32768) := nI_div hn (by decide) (by decide)
    have d' : nI n / 32768 = nI (n / 32768) := d
    have m : nI (n / 32768) * 32768 = nI (n / 32768 * 32768) := nI_mul _ _
    rw [d', m, nI_sub hn (by omega)]
    exact congrArg nI (by omega)
  rw [a1, a2]
theorem top_is {b : Bool} {p : Int32} (h0 : 0 ≤ p.toInt) (h1 : p.toInt ≤ 32767) : g_R_top b p = g_M_answer b p := by
  unfold g_R_top g_M_answer
  dsimp only
  cases b
  · rw [if_neg nff, if_neg nff, Int32.zero_add]
  · rw [if_pos ytt, if_pos ytt]
    obtain ⟨n, e, ti, hn⟩ := nI_word h0
    rw [ti] at h1
    have o : n ||| 32768 = 32768 + n := by
      have := or_add (a := 1) (b := n) (k := 15) (show n < 32768 by omega)
      rw [Nat.or_comm]
      exact this
    have a : nI n ||| nI 32768 = nI (n ||| 32768) := nI_or hn (by decide)
    have a' : nI n ||| 32768 = nI (32768 + n) := by rw [← o]; exact a
    have s : nI 32768 + nI n = nI (32768 + n) := nI_add _ _
    rw [e, a']
    exact s.symm
theorem answer_rng {b : Bool} {p : Int32} (h0 : 0 ≤ p.toInt) (h1 : p.toInt ≤ 32767) : 0 ≤ (g_M_answer b p).toInt ∧ (g_M_answer b p).toInt ≤ 65535 := by
  unfold g_M_answer
  dsimp only
  cases b
  · rw [if_neg nff, Int32.zero_add]; omega
  · rw [if_pos ytt, i32A (x := 32768) (y := p.toInt) rfl rfl (by omega) (by omega)]; omega
theorem answer_T {t : Int32} (h : okT t) : g_M_answer (sgT t) (pwT t) = t := by
  obtain ⟨n, e, ti, hn⟩ := nI_word h.1
  have h2 := h.2
  rw [ti] at h2
  unfold g_M_answer sgT pwT
  dsimp only
  rw [ti, Int.toNat_natCast]
  by_cases c : (32767 : Int) < n
  · have s : nI 32768 + nI (n % 32768) = nI (32768 + n % 32768) := nI_add _ _
    rw [decide_eq_true c, if_pos ytt, e]
    refine s.trans (congrArg nI ?_)
    omega
  · rw [decide_eq_false c, if_neg nff, Int32.zero_add, e]
    exact congrArg nI (by omega)
/-! which of two no numbers is answered -/
noncomputable def pick (ta tb : Int32) (fa fb : Int64) : Bool := if (g_R_isNoNumber (pwT ta) fa) = true then if (g_R_isNoNumber (pwT tb) fb) = true then if fa = fb then if ta ≤ 32767 then false else if 32767 < tb then false else true else (g_M_below fa fb) else false else true
theorem sg_le (t : Int32) : (t ≤ 32767) ↔ sgT t = false := by
  unfold sgT
  rw [Int32.le_iff_toInt_le, decide_eq_false_iff_not]
  show _ ≤ (32767 : Int) ↔ _
  omega
theorem sg_lt (t : Int32) : (32767 < t) ↔ sgT t = true := by
  unfold sgT
  rw [Int32.lt_iff_toInt_lt, decide_eq_true_iff]
  rfl
theorem noNum_p {p : Int32} {f : Int64} (h : g_R_isNoNumber p f = true) : p = 32767 := by
  unfold g_R_isNoNumber at h
  by_cases c : p = 32767
  · exact c
  · rw [if_neg c] at h
    exact absurd h (by decide)
theorem pick_is (ta tb : Int32) (fa fb : Int64) (hn : g_R_isNoNumber (pwT ta) fa = true ∨ g_R_isNoNumber (pwT tb) fb = true) :
    g_O_answerNoNumber (sgT ta) (pwT ta) fa (sgT tb) (pwT tb) fb = (if pick ta tb fa fb = true then (sgT tb, pwT tb, fb) else (sgT ta, pwT ta, fa)) ∧ g_O_answerNoNumber (sgT tb) (pwT tb) fb (sgT ta) (pwT ta) fa = (if pick ta tb fa fb = true then (sgT tb, pwT tb, fb) else (sgT ta, pwT ta, fa)) := by
  unfold g_O_answerNoNumber pick
  by_cases na : g_R_isNoNumber (pwT ta) fa = true
  · by_cases nb : g_R_isNoNumber (pwT tb) fb = true
    · have pa := noNum_p na
      have pb := noNum_p nb
      rw [pa] at na
      rw [pb] at nb
      rw [pa, pb]
      by_cases ef : fa = fb
      · subst ef
        have ir : ¬ uN fa < uN fa := Nat.lt_irrefl _
        simp only [na, ↓reduceIte, ir]
        have la := sg_le ta
        have lb := sg_lt tb
        cases sa : sgT ta
        · have l1 := la.mpr sa
          simp only [l1, ↓reduceIte, Bool.false_eq_true]
          cases sb : sgT tb <;> (constructor <;> first | trivial | rfl)
        · have la' : ¬ ta ≤ 32767 := fun w => by rw [la.mp w] at sa; exact absurd sa (by decide)
          cases sb : sgT tb
          · have lb' : ¬ 32767 < tb := fun w => by rw [lb.mp w] at sb; exact absurd sb (by decide)
            simp only [la', lb', ↓reduceIte]
            (constructor <;> first | trivial | rfl)
          · have l2 := lb.mpr sb
            simp only [la', l2, ↓reduceIte]
            (constructor <;> first | trivial | rfl)
      · have eu : ¬ uN fa = uN fb := fun w => ef (uN_inj w)
        have eu' : ¬ uN fb = uN fa := fun w => ef (uN_inj w.symm)
        simp only [na, nb, ef, eu, eu', ↓reduceIte, M_below_is]
        by_cases c : uN fa < uN fb
        · have c' : ¬ uN fb < uN fa := by omega
          rw [if_pos c, if_neg c', decide_eq_true c]
          exact ⟨rfl, rfl⟩
        · have c' : uN fb < uN fa := by omega
          rw [if_neg c, if_pos c', decide_eq_false c]
          exact ⟨rfl, rfl⟩
    · simp only [na, nb, ↓reduceIte, Bool.false_eq_true]
      exact ⟨trivial, trivial⟩
  · have nb : g_R_isNoNumber (pwT tb) fb = true := hn.resolve_left na
    simp only [na, nb, ↓reduceIte, Bool.false_eq_true]
    exact ⟨trivial, trivial⟩
noncomputable def mTail (MI : Nat → Bool) (PW : Nat → Int32) (PT : Nat → Int64) (wd : Int32) (al : Int32) (sz1 : Int32) (un : Int32) (mo : Bool) (tl : Int32) (sp : Bool) (tpo : Int32) (fro : Int64) (ly : Bool) (mT : Nat → Int32) (mF : Nat → Int64) (rb : Nat → Bool) (iop : Int32) (ia : Int32) (ib : Int32) (ito : Int32) : Int32 × Int32 × Int32 × Int32 × Int32 × Bool × Int32 × Bool × Int32 × Int64 × Bool × (Nat → Int32) × (Nat → Int64) × (Nat → Bool) × (Nat → Int32) × (Nat → Int64) × (Nat → Bool) := (let j122_0 : Bool := if 6 ≤ iop then false else true; (if (g_M_isNone PW PT 0) = true then let z148 : (Nat → Bool) × (Nat → Int32) × (Nat → Int64) := g_M_take mT mF MI PW PT 0 ia; (let z154 : (Nat → Bool) × (Nat → Int32) × (Nat → Int64) := g_M_take mT mF z148.1 z148.2.1 z148.2.2 1 ib; (let j168_0 : Int32 := if j122_0 = true then 2 else 1; (let z170 : Int32 × Bool × Int32 × Int64 := g_M_noNumber wd 0 tpo fro mT mF z154.2.1 z154.2.2 j168_0 ia ib; (if z170.2.1 = true then (z170.1, 0, (al ||| z170.1), sz1, un, mo, z170.1, z170.2.1, z170.2.2.1, z170.2.2.2, ly, mT, mF, z154.1, z154.2.1, z154.2.2, rb) else (z170.1, 0, (al ||| z170.1), sz1, un, mo, z170.1, z170.2.1, z170.2.2.1, z170.2.2.2, ly, (upd mT ito.toNatClampNeg z170.2.2.1), (vp_updL mF ito.toNatClampNeg z170.2.2.2), z154.1, z154.2.1, z154.2.2, rb))))) else if j122_0 = true then if (g_M_isNone PW PT 1) = true then let z148 : (Nat → Bool) × (Nat → Int32) × (Nat → Int64) := g_M_take mT mF MI PW PT 0 ia; (let z154 : (Nat → Bool) × (Nat → Int32) × (Nat → Int64) := g_M_take mT mF z148.1 z148.2.1 z148.2.2 1 ib; (let j168_0 : Int32 := if j122_0 = true then 2 else 1; (let z170 : Int32 × Bool × Int32 × Int64 := g_M_noNumber wd 0 tpo fro mT mF z154.2.1 z154.2.2 j168_0 ia ib; (if z170.2.1 = true then (z170.1, 0, (al ||| z170.1), sz1, un, mo, z170.1, z170.2.1, z170.2.2.1, z170.2.2.2, ly, mT, mF, z154.1, z154.2.1, z154.2.2, rb) else (z170.1, 0, (al ||| z170.1), sz1, un, mo, z170.1, z170.2.1, z170.2.2.1, z170.2.2.2, ly, (upd mT ito.toNatClampNeg z170.2.2.1), (vp_updL mF ito.toNatClampNeg z170.2.2.2), z154.1, z154.2.1, z154.2.2, rb))))) else let j214_0 : Bool := if iop = 1 then if (MI (1 : Int32).toNatClampNeg) = true then false else true else if iop = 2 then if (MI (1 : Int32).toNatClampNeg) = true then false else true else (MI (1 : Int32).toNatClampNeg); (let z217 : Int32 × Int32 × Bool × Int32 × Bool × Int32 × Int64 × Bool × (Nat → Bool) := g_M_work wd sz1 un mo 0 false tpo fro ly (updB MI (1 : Int32).toNatClampNeg j214_0) PW PT rb iop; (if z217.2.2.2.2.1 = true then (z217.2.2.2.1, 0, (al ||| z217.2.2.2.1), z217.1, z217.2.1, z217.2.2.1, z217.2.2.2.1, z217.2.2.2.2.1, z217.2.2.2.2.2.1, z217.2.2.2.2.2.2.1, z217.2.2.2.2.2.2.2.1, mT, mF, (updB MI (1 : Int32).toNatClampNeg j214_0), PW, PT, z217.2.2.2.2.2.2.2.2) else (z217.2.2.2.1, 0, (al ||| z217.2.2.2.1), z217.1, z217.2.1, z217.2.2.1, z217.2.2.2.1, z217.2.2.2.2.1, z217.2.2.2.2.2.1, z217.2.2.2.2.2.2.1, z217.2.2.2.2.2.2.2.1, (upd mT ito.toNatClampNeg z217.2.2.2.2.2.1), (vp_updL mF ito.toNatClampNeg z217.2.2.2.2.2.2.1), (updB MI (1 : Int32).toNatClampNeg j214_0), PW, PT, z217.2.2.2.2.2.2.2.2))) else let j214_0 : Bool := if iop = 1 then if (MI (1 : Int32).toNatClampNeg) = true then false else true else if iop = 2 then if (MI (1 : Int32).toNatClampNeg) = true then false else true else (MI (1 : Int32).toNatClampNeg); (let z217 : Int32 × Int32 × Bool × Int32 × Bool × Int32 × Int64 × Bool × (Nat → Bool) := g_M_work wd sz1 un mo 0 false tpo fro ly (updB MI (1 : Int32).toNatClampNeg j214_0) PW PT rb iop; (if z217.2.2.2.2.1 = true then (z217.2.2.2.1, 0, (al ||| z217.2.2.2.1), z217.1, z217.2.1, z217.2.2.1, z217.2.2.2.1, z217.2.2.2.2.1, z217.2.2.2.2.2.1, z217.2.2.2.2.2.2.1, z217.2.2.2.2.2.2.2.1, mT, mF, (updB MI (1 : Int32).toNatClampNeg j214_0), PW, PT, z217.2.2.2.2.2.2.2.2) else (z217.2.2.2.1, 0, (al ||| z217.2.2.2.1), z217.1, z217.2.1, z217.2.2.1, z217.2.2.2.1, z217.2.2.2.2.1, z217.2.2.2.2.2.1, z217.2.2.2.2.2.2.1, z217.2.2.2.2.2.2.2.1, (upd mT ito.toNatClampNeg z217.2.2.2.2.2.1), (vp_updL mF ito.toNatClampNeg z217.2.2.2.2.2.2.1), (updB MI (1 : Int32).toNatClampNeg j214_0), PW, PT, z217.2.2.2.2.2.2.2.2)))))
noncomputable def T2 (mT : Nat → Int32) (mF : Nat → Int64) (mi : Nat → Bool) (pw : Nat → Int32) (pt : Nat → Int64) (x y : Int32) : (Nat → Bool) × (Nat → Int32) × (Nat → Int64) := g_M_take mT mF (g_M_take mT mF mi pw pt 0 x).1 (g_M_take mT mF mi pw pt 0 x).2.1 (g_M_take mT mF mi pw pt 0 x).2.2 1 y
theorem T2_is {mT : Nat → Int32} {mF : Nat → Int64} {mi : Nat → Bool} {pw : Nat → Int32} {pt : Nat → Int64} {x y : Int32} (hx : okT (mT x.toNatClampNeg)) (hy : okT (mT y.toNatClampNeg)) :
    (T2 mT mF mi pw pt x y).1 0 = sgT (mT x.toNatClampNeg) ∧ (T2 mT mF mi pw pt x y).1 1 = sgT (mT y.toNatClampNeg) ∧ (T2 mT mF mi pw pt x y).2.1 0 = pwT (mT x.toNatClampNeg) ∧ (T2 mT mF mi pw pt x y).2.1 1 = pwT (mT y.toNatClampNeg) ∧ (T2 mT mF mi pw pt x y).2.2 0 = mF x.toNatClampNeg ∧ (T2 mT mF mi pw pt x y).2.2 1 = mF y.toNatClampNeg := by
  unfold T2
  rw [M_take_is _ _ _ _ _ _ x hx]
  dsimp only
  rw [M_take_is _ _ _ _ _ _ y hy]
  exact ⟨rfl, rfl, rfl, rfl, rfl, rfl⟩
theorem M_op {wd al sz1 un : Int32} {mo : Bool} {tl : Int32} {sp : Bool} {tpo : Int32} {fro : Int64} {ly : Bool} {mT : Nat → Int32} {mF : Nat → Int64} {mi : Nat → Bool} {pw : Nat → Int32} {pt : Nat → Int64} {rb : Nat → Bool} {iop ia ib ito x y : Int32} (na : ¬ g_M_none ia = true) (nb : ¬ g_M_none ib = true) (nt : ¬ g_M_none ito = true) (i0 : ¬ iop < 0) (i6 : iop ≤ 6) (hxy : (iop = 2 ∧ x = ib ∧ y = ia) ∨ (¬ iop = 2 ∧ iop = 5 ∧ x = ib ∧ y = ia) ∨ (¬ iop = 2 ∧ ¬ iop = 5 ∧ x = ia ∧ y = ib)) :
    g_M_operate wd al sz1 un mo tl sp tpo fro ly mT mF mi pw pt rb iop ia ib ito = mTail (T2 mT mF mi pw pt x y).1 (T2 mT mF mi pw pt x y).2.1 (T2 mT mF mi pw pt x y).2.2 wd al sz1 un mo tl sp tpo fro ly mT mF rb iop ia ib ito := by
  unfold g_M_operate mTail T2
  rw [if_neg na, if_neg nb, if_neg nt, if_neg i0, if_pos i6]
  rcases hxy with ⟨h2, rfl, rfl⟩ | ⟨h2, h5, rfl, rfl⟩ | ⟨h2, h5, rfl, rfl⟩
  · rw [if_pos h2, if_pos h2, if_pos h2]
  · rw [if_neg h2, if_neg h2, if_neg h2, if_pos h5, if_pos h5, if_pos h5]
  · rw [if_neg h2, if_neg h2, if_neg h2, if_neg h5, if_neg h5, if_neg h5]
