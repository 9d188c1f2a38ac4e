/-! THE CLAIM OUT OF ONE WALK OF THE LAW'S BODY. Your part is whole_start (and what it stands on); all else here is the same for every law, but numbers. -/
def R_law : String := "RealOperationsLaw"
def lw_P (b : Addr) (xs : List Int32) (args : Array Value) (s : State) : Prop := args = #[.ref b] ∧ s.IntsAt b xs ∧ xs.length ≤ 2560 ∧ (Jvm.Cond.and given_1 narrow_1).before args s = true
def lw_Q (_ : Array Value) (s : State) (o : Outcome) (t : State) : Prop := o = .returned (some (.int 1)) ∧ Framed s o t [] 601024 7293033
def lw_Z (below : List Frame) (a : Array Value) (s : State) : State → Prop := fun t => ∃ o, t.status = .running ∧ Ended t below o ∧ lw_Q a s o t
/-- the law's own end, with 1 on the stack, nothing written that was there before, its room as the claim has it -/
theorem lw_ret {p : Program} {l : Launch} {e : Env} {s : State} {m : MethodId} {below : List Frame} {meth : Method} {c : Code} {b : Nat} (hx : p.tables.exec = Jvm.exec) (hb : c.code = code) (hr : meth.sig.returnType = ret) (hlocks : meth.locks = false) {pc : Nat} {H : Heap} {ls : Array Slot} (hdg : decode code pc = .ok (.ireturn, 1)) : W p l e room_1 s m #[Value.ref b] below meth c H [] 601024 7293033 (lw_Z below #[Value.ref b] s) (F0 m pc ls [.int 1]) := by
  intro T hT X
  obtain ⟨fs, hret, hrun, hended, hW, hframe⟩ := X.leave (v := some (.int 1)) (hlocks := hlocks) (fun h => by rw [hr] at h; cases h)
  have hmeth' : T.vm.method? m = some meth := X.method'
  refine ⟨T.setFrames fs, ?_, .returned (some (.int 1)), hrun, hended, rfl, ⟨_, rfl⟩, hW, hframe⟩
  jvm_step X.here [X.here.top, hx, hb, hdg, hmeth', hr, ret, narrow_b1]
  (try refine ⟨rfl, ?_⟩); (try refine ⟨rfl, ?_⟩)
  first | (intro acts; rw [hret _ acts rfl rfl rfl]) | rw [hret _ _ rfl rfl rfl]
  exact Steps.refl _
/-- what holds at the law's entry: the machine, the code, the tables' words (any of lw_tbl by 'hts w (by decide +kernel)'), the script of L ints xs at the cell b, what the Statement gives of the start (any of its parts by flat_of_before) -/
def lw_At (p : Program) (s : State) (m : MethodId) (meth : Method) (c : Code) (b L : Nat) (xs : Nat → Int32) : Prop :=
  p.tables.exec = Jvm.exec ∧ c.code = code ∧ meth.sig.returnType = ret ∧ c.maxLocals = 7 ∧ s.vm.findClass R_law = some m.cls ∧ (∀ w ∈ lw_tbl, w.before #[Value.ref b] s = true) ∧ va_X b L xs s s.heap ∧ b < s.heap.size ∧ meth.locks = false ∧ (Jvm.Cond.and given_1 narrow_1).before #[Value.ref b] s = true
/-! Own pure rows for the law: what holds between the calls. -/
def lInv (cw ts : Int32) (fT : Nat → Int32) (fF : Nat → Int64) (wd al : Int32) (mT : Nat → Int32) (mF : Nat → Int64) : Prop :=
  cw = wd ∧ ts = al ∧ (∀ k, k < 8 → fT k = mT k ∧ fF k = mF k) ∧ okt mT ∧ 0 ≤ wd.toInt ∧ wd.toInt ≤ 65535
def lp_operate_is : Prop := ∀ (cw : Int32) (ts : Int32) (fT : Nat → Int32) (fF : Nat → Int64) (n1 : Bool) (p1 : Int32) (f1 : Int64) (n2 : Bool) (p2 : Int32) (f2 : Int64) (n3 : Bool) (p3 : Int32) (f3 : Int64) (hi : Int64) (lo : Int64) (ex : Int32) (hi2 : Int64) (lo2 : Int64) (ex2 : Int32) (cd : Int32) (wd : Int32) (al : Int32) (sz1 : Int32) (un : Int32) (mo : Bool) (tl : Int32) (sp : Bool) (tpo : Int32) (fro : Int64) (ly : Bool) (mT : Nat → Int32) (mF : Nat → Int64) (mi : Nat → Bool) (pw : Nat → Int32) (pt : Nat → Int64) (rb : Nat → Bool) (fV : Nat → Int64), lInv cw ts fT fF wd al mT mF → ∀ (iop ia ib ito : Int32), (g_L_operate cw ts fT fF n1 p1 f1 n2 p2 f2 n3 p3 f3 hi lo ex hi2 lo2 ex2 fV iop ia ib ito).1 = (g_M_operate wd al sz1 un mo tl sp tpo fro ly mT mF mi pw pt rb iop ia ib ito).2.1 ∧ ((g_L_operate cw ts fT fF n1 p1 f1 n2 p2 f2 n3 p3 f3 hi lo ex hi2 lo2 ex2 fV iop ia ib ito).1 = 0 → ((g_L_operate cw ts fT fF n1 p1 f1 n2 p2 f2 n3 p3 f3 hi lo ex hi2 lo2 ex2 fV iop ia ib ito).2.2.2.2.2.2.2.2.2.2.2.2.2.2.2.2.2.2.2) (0 : Int32).toNatClampNeg = ((g_M_operate wd al sz1 un mo tl sp tpo fro ly mT mF mi pw pt rb iop ia ib ito).1).toInt64) ∧ lInv cw ((g_L_operate cw ts fT fF n1 p1 f1 n2 p2 f2 n3 p3 f3 hi lo ex hi2 lo2 ex2 fV iop ia ib ito).2.1) ((g_L_operate cw ts fT fF n1 p1 f1 n2 p2 f2 n3 p3 f3 hi lo ex hi2 lo2 ex2 fV iop ia ib ito).2.2.1) ((g_L_operate cw ts fT fF n1 p1 f1 n2 p2 f2 n3 p3 f3 hi lo ex hi2 lo2 ex2 fV iop ia ib ito).2.2.2.1) wd ((g_M_operate wd al sz1 un mo tl sp tpo fro ly mT mF mi pw pt rb iop ia ib ito).2.2.1) ((g_M_operate wd al sz1 un mo tl sp tpo fro ly mT mF mi pw pt rb iop ia ib ito).2.2.2.2.2.2.2.2.2.2.2.1) ((g_M_operate wd al sz1 un mo tl sp tpo fro ly mT mF mi pw pt rb iop ia ib ito).2.2.2.2.2.2.2.2.2.2.2.2.1)
theorem nI_add5 (i : Nat) : nI i + 5 = nI (i + 5) := nI_add i 5
theorem law_guard {x4 : Int32} {i L : Nat} (hi : i ≤ 2560) (hL : L ≤ 2560) (e : x4 = nI i) (c : ¬ (Int32.ofNat L - 5) < x4) : i + 5 ≤ L := by
  rw [e, Int32.lt_iff_toInt_lt] at c
  have a : (Int32.ofNat L).toInt = L := nI_toInt (by omega)
  have b : (nI i).toInt = i := nI_toInt (by omega)
  have d : (5 : Int32).toInt = 5 := rfl
  rw [i32_sub (by omega) (by omega)] at c
  omega
theorem law_ix {x4 : Int32} {i L : Nat} (k : Nat) (kk : Int32) (hk : kk = nI k) (h : i + k < L) (hL : L ≤ 2560) (e : x4 = nI i) : vp_in (x4 + kk) L := by
  rw [e, hk, nI_add]
  exact vp_in_nI h (by omega)
theorem reg_none (r : Int32) : g_M_none r = true ↔ ¬ g_O_isRegister r = true := by
  have e7 : (7 : Int32).toInt = 7 := rfl
  have e8 : (8 : Int32).toInt = 8 := rfl
  unfold g_M_none g_O_isRegister
  by_cases a : r < 0
  · rw [if_pos a, if_pos a]; decide
  · rw [if_neg a, if_neg a]
    by_cases b : r ≤ 7
    · have d : ¬ 8 ≤ r := by rw [Int32.le_iff_toInt_le] at b ⊢; omega
      rw [if_pos b, if_neg d]; decide
    · have d : 8 ≤ r := by rw [Int32.le_iff_toInt_le] at b ⊢; omega
      rw [if_neg b, if_pos d]; decide
theorem i32_nlt (a b : Int32) : ¬ a < b ↔ b ≤ a := by
  rw [Int32.lt_iff_toInt_lt, Int32.le_iff_toInt_le]; omega
theorem six_is (w : Int32) : g_O_hasSixteenBits w = true ↔ ¬ w < 0 ∧ w ≤ 65535 := by
  unfold g_O_hasSixteenBits
  by_cases a : w < 0
  · rw [if_pos a]; exact ⟨fun h => absurd h (by decide), fun h => absurd a h.1⟩
  · rw [if_neg a]
    by_cases b : 65535 < w
    · rw [if_pos b]
      refine ⟨fun h => absurd h (by decide), fun h => ?_⟩
      have := (i32_nlt 65535 w).mpr h.2
      exact absurd b this
    · rw [if_neg b]; exact ⟨fun _ => ⟨a, (i32_nlt _ _).mp b⟩, fun _ => rfl⟩
theorem six_rng {w : Int32} (h : g_O_hasSixteenBits w = true) : 0 ≤ w.toInt ∧ w.toInt ≤ 65535 := by
  obtain ⟨a, b⟩ := (six_is w).mp h
  rw [Int32.lt_iff_toInt_lt] at a
  rw [Int32.le_iff_toInt_le] at b
  have e0 : (0 : Int32).toInt = 0 := rfl
  have e1 : (65535 : Int32).toInt = 65535 := rfl
  omega
section Lp
variable {cw ts : Int32} {fT : Nat → Int32} {fF : Nat → Int64} {wd al : Int32} {mT : Nat → Int32} {mF : Nat → Int64}
theorem lp_control (h : lInv cw ts fT fF wd al mT mF) (iw : Int32) : (g_L_control cw iw).1 = (g_M_control wd iw).1 ∧ lInv (g_L_control cw iw).2 ts fT fF (g_M_control wd iw).2 al mT mF := by
  obtain ⟨rfl, rfl, hr, ht, h0, h1⟩ := h
  unfold g_L_control g_M_control x_O_control g_O_control
  by_cases c : g_O_hasSixteenBits iw = true
  · obtain ⟨a, b⟩ := (six_is iw).mp c
    obtain ⟨r0, r1⟩ := six_rng c
    simp only [if_pos c, if_neg a, if_pos b]
    exact ⟨rfl, rfl, rfl, hr, ht, r0, r1⟩
  · have d : (if iw < 0 then true else if iw ≤ 65535 then false else true) = true := by
      by_cases a : iw < 0
      · rw [if_pos a]
      · rw [if_neg a]
        by_cases b : iw ≤ 65535
        · exact absurd ((six_is iw).mpr ⟨a, b⟩) c
        · rw [if_neg b]
    simp only [if_neg c, d]
    exact ⟨rfl, rfl, rfl, hr, ht, h0, h1⟩
theorem lp_regs {r : Int32} (h : g_O_isRegister r = true) : ∃ k, k < 8 ∧ r.toNatClampNeg = k := by
  obtain ⟨k, hk, e⟩ := vp_in_of (reg_in h) (by decide)
  exact ⟨k, hk, by rw [e]; exact nI_clamp (by omega)⟩
theorem lp_set (h : lInv cw ts fT fF wd al mT mF) (ir itp ihg ilw : Int32) : (g_L_set fT fF ir itp ihg ilw).1 = (g_M_set mT mF ir itp ihg ilw).1 ∧ lInv cw ts (g_L_set fT fF ir itp ihg ilw).2.1 (g_L_set fT fF ir itp ihg ilw).2.2 wd al (g_M_set mT mF ir itp ihg ilw).2.1 (g_M_set mT mF ir itp ihg ilw).2.2 := by
  obtain ⟨rfl, rfl, hr, ht, h0, h1⟩ := h
  unfold g_L_set g_M_set x_O_set g_O_set
  by_cases c : g_O_isRegister ir = true
  · have c' : ¬ g_M_none ir = true := fun q => (reg_none ir).mp q c
    obtain ⟨k, hk, ek⟩ := lp_regs c
    by_cases d : g_O_hasSixteenBits itp = true
    · obtain ⟨a, b⟩ := (six_is itp).mp d
      obtain ⟨r0, r1⟩ := six_rng d
      simp only [if_pos c, if_neg c', if_pos d, if_neg a, if_pos b]
      refine ⟨rfl, rfl, rfl, ?_, ?_, h0, h1⟩
      · intro j hj
        obtain ⟨q1, q2⟩ := hr j hj
        show upd fT ir.toNatClampNeg itp j = upd mT ir.toNatClampNeg itp j ∧ vp_updL fF ir.toNatClampNeg _ j = vp_updL mF ir.toNatClampNeg _ j
        unfold upd vp_updL
        by_cases e : j = ir.toNatClampNeg
        · rw [if_pos e, if_pos e, if_pos e, if_pos e]; exact ⟨rfl, rfl⟩
        · rw [if_neg e, if_neg e, if_neg e, if_neg e]; exact ⟨q1, q2⟩
      · intro j hj
        show 0 ≤ (upd mT ir.toNatClampNeg itp j).toInt ∧ (upd mT ir.toNatClampNeg itp j).toInt ≤ 65535
        unfold upd
        by_cases e : j = ir.toNatClampNeg
        · rw [if_pos e]; exact ⟨r0, r1⟩
        · rw [if_neg e]; exact ht j hj
    · have m2 : (if itp < 0 then (2, mT, mF) else if itp ≤ 65535 then (0, (upd mT ir.toNatClampNeg itp), (vp_updL mF ir.toNatClampNeg ((sL (ihg.toInt64) 32) ||| ((ilw.toInt64) &&& 4294967295)))) else (2, mT, mF) : Int32 × (Nat → Int32) × (Nat → Int64)) = (2, mT, mF) := by
        by_cases a : itp < 0
        · rw [if_pos a]
        · rw [if_neg a]
          by_cases b : itp ≤ 65535
          · exact absurd ((six_is itp).mpr ⟨a, b⟩) d
          · rw [if_neg b]
      simp only [if_pos c, if_neg c', if_neg d, m2]
      exact ⟨rfl, rfl, rfl, hr, ht, h0, h1⟩
  · have c' : g_M_none ir = true := (reg_none ir).mpr c
    simp only [if_neg c, if_pos c']
    exact ⟨rfl, rfl, rfl, hr, ht, h0, h1⟩
theorem uR_tb (x : Int64) {d : Nat} (hd : d < 64) : (uR x (nI d)).toBitVec = x.toBitVec >>> d := by
  have h : ∀ d, d < 64 → ((nI d).toInt64.toUInt64 &&& Int64.toUInt64 63).toNat % 64 = d := by decide +kernel
  unfold uR
  show (x.toUInt64 >>> ((nI d).toInt64.toUInt64 &&& Int64.toUInt64 63)).toBitVec = _
  apply BitVec.eq_of_toNat_eq
  rw [BitVec.toNat_ushiftRight]
  show (x.toUInt64 >>> ((nI d).toInt64.toUInt64 &&& Int64.toUInt64 63)).toNat = _
  rw [UInt64.toNat_shiftRight, h d hd]
  rfl
theorem half_hi (x : Int64) : (aR x 32).toInt32 = (uR x 32).toInt32 := by
  apply Int32.toBitVec_inj.mp
  show (aR x (nI 32)).toBitVec.signExtend 32 = (uR x (nI 32)).toBitVec.signExtend 32
  rw [aR_tb x (by omega), uR_tb x (by omega)]
  apply BitVec.eq_of_getLsbD_eq
  intro i hi
  rw [BitVec.getLsbD_signExtend, BitVec.getLsbD_signExtend, BitVec.getLsbD_sshiftRight, BitVec.getLsbD_ushiftRight]
  have a : i < 64 := by omega
  have b : 32 + i < 64 := by omega
  simp [hi, a, b]
theorem lp_part (h : lInv cw ts fT fF wd al mT mF) (fV : Nat → Int64) (ir iwh : Int32) : (g_L_part fT fF fV ir iwh).1 = (g_M_part mT mF ir iwh).2 ∧ ((g_L_part fT fF fV ir iwh).1 = 0 → (g_L_part fT fF fV ir iwh).2 (0 : Int32).toNatClampNeg = (g_M_part mT mF ir iwh).1.toInt64) := by
  obtain ⟨rfl, rfl, hr, ht, h0, h1⟩ := h
  have z0 : ∀ v : Int64, vp_updL fV (0 : Int32).toNatClampNeg v (0 : Int32).toNatClampNeg = v := fun v => by unfold vp_updL; rw [if_pos rfl]
  unfold g_L_part g_M_part x_O_part g_O_part
  by_cases c : g_O_isRegister ir = true
  · have c' : ¬ g_M_none ir = true := fun q => (reg_none ir).mp q c
    obtain ⟨k, hk, ek⟩ := lp_regs c
    obtain ⟨q1, q2⟩ := hr k hk
    rw [ek]
    have e1 : (1 : Int32).toInt = 1 := rfl
    have e2 : (2 : Int32).toInt = 2 := rfl
    have e0 : (0 : Int32).toInt = 0 := rfl
    by_cases d0 : iwh = 0
    · subst d0
      simp only [if_pos c, if_neg c', q1]
      exact ⟨rfl, fun _ => z0 _⟩
    · by_cases d1 : iwh = 1
      · subst d1
        simp only [if_pos c, if_neg c', q2]
        exact ⟨rfl, fun _ => (z0 _).trans (by rw [half_hi]; rfl)⟩
      · by_cases d2 : iwh = 2
        · subst d2
          simp only [if_pos c, if_neg c', q2]
          exact ⟨rfl, fun _ => z0 _⟩
        · have n0 : iwh.toInt ≠ 0 := fun q => d0 (Int32.toInt_inj.mp (q.trans rfl))
          have n1 : iwh.toInt ≠ 1 := fun q => d1 (Int32.toInt_inj.mp (q.trans rfl))
          have n2 : iwh.toInt ≠ 2 := fun q => d2 (Int32.toInt_inj.mp (q.trans rfl))
          have m2 : ∀ a : Int32 × Int32, (if iwh < 0 then (0, 2) else if iwh ≤ 2 then a else (0, 2) : Int32 × Int32) = (0, 2) := by
            intro a
            by_cases x : iwh < 0
            · rw [if_pos x]
            · rw [if_neg x]
              by_cases y : iwh ≤ 2
              · rw [Int32.lt_iff_toInt_lt] at x
                rw [Int32.le_iff_toInt_le] at y
                omega
              · rw [if_neg y]
          simp only [if_pos c, if_neg c', if_neg d0, if_neg d1, if_neg d2, m2]
          exact ⟨rfl, fun q => absurd (show (2 : Int32) = 0 from q) (by decide)⟩
  · have c' : g_M_none ir = true := (reg_none ir).mpr c
    simp only [if_neg c, if_pos c']
    exact ⟨rfl, fun q => absurd (show (1 : Int32) = 0 from q) (by decide)⟩
theorem lp_told (h : lInv cw ts fT fF wd al mT mF) : g_O_told ts = g_M_told al := h.2.1
theorem lp_clear (h : lInv cw ts fT fF wd al mT mF) : lInv cw 0 fT fF wd 0 mT mF := ⟨h.1, rfl, h.2.2⟩
end Lp
theorem d_L_law_23 : decode b_L_law 23 = .ok (.iload 4, 2) := by decide +kernel
theorem d_L_law_25 : decode b_L_law 25 = .ok (.aload_n 0, 1) := by decide +kernel
theorem d_L_law_26 : decode b_L_law 26 = .ok (.arraylength, 1) := by decide +kernel
theorem d_L_law_27 : decode b_L_law 27 = .ok (.iconst 5, 1) := by decide +kernel
theorem d_L_law_28 : decode b_L_law 28 = .ok (.isub, 1) := by decide +kernel
theorem d_L_law_29 : decode b_L_law 29 = .ok (.if_icmp .gt 345, 3) := by decide +kernel
theorem d_L_law_374 : decode b_L_law 374 = .ok (.iconst 1, 1) := by decide +kernel
theorem d_L_law_375 : decode b_L_law 375 = .ok (.ireturn, 1) := by decide +kernel
theorem d_L_law_32 : decode b_L_law 32 = .ok (.aload_n 0, 1) := by decide +kernel
theorem d_L_law_33 : decode b_L_law 33 = .ok (.iload 4, 2) := by decide +kernel
theorem d_L_law_35 : decode b_L_law 35 = .ok (.iaload, 1) := by decide +kernel
theorem d_L_law_36 : decode b_L_law 36 = .ok (.bipush 7, 2) := by decide +kernel
theorem d_L_law_38 : decode b_L_law 38 = .ok (.iand, 1) := by decide +kernel
theorem d_L_law_39 : decode b_L_law 39 = .ok (.tableswitch 329 0 5 #[37, 73, 145, 213, 305, 318], 37) := by decide +kernel
theorem d_L_law_76 : decode b_L_law 76 = .ok (.aload_n 1, 1) := by decide +kernel
theorem d_L_law_77 : decode b_L_law 77 = .ok (.aload_n 0, 1) := by decide +kernel
theorem d_L_law_78 : decode b_L_law 78 = .ok (.iload 4, 2) := by decide +kernel
theorem d_L_law_80 : decode b_L_law 80 = .ok (.iconst 1, 1) := by decide +kernel
theorem d_L_law_81 : decode b_L_law 81 = .ok (.iadd, 1) := by decide +kernel
theorem d_L_law_82 : decode b_L_law 82 = .ok (.iaload, 1) := by decide +kernel
theorem d_L_law_83 : decode b_L_law 83 = .ok (.invokestatic 33, 3) := by decide +kernel
theorem d_L_law_86 : decode b_L_law 86 = .ok (.istore 5, 2) := by decide +kernel
theorem d_L_law_88 : decode b_L_law 88 = .ok (.aload_n 2, 1) := by decide +kernel
theorem d_L_law_89 : decode b_L_law 89 = .ok (.aload_n 0, 1) := by decide +kernel
theorem d_L_law_90 : decode b_L_law 90 = .ok (.iload 4, 2) := by decide +kernel
theorem d_L_law_92 : decode b_L_law 92 = .ok (.iconst 1, 1) := by decide +kernel
theorem d_L_law_93 : decode b_L_law 93 = .ok (.iadd, 1) := by decide +kernel
theorem d_L_law_94 : decode b_L_law 94 = .ok (.iaload, 1) := by decide +kernel
theorem d_L_law_95 : decode b_L_law 95 = .ok (.invokevirtual 38, 3) := by decide +kernel
theorem d_L_law_98 : decode b_L_law 98 = .ok (.aload_n 2, 1) := by decide +kernel
theorem d_L_law_99 : decode b_L_law 99 = .ok (.invokevirtual 39, 3) := by decide +kernel
theorem d_L_law_102 : decode b_L_law 102 = .ok (.iload 5, 2) := by decide +kernel
theorem d_L_law_104 : decode b_L_law 104 = .ok (.if_icmp .eq 5, 3) := by decide +kernel
theorem d_L_law_109 : decode b_L_law 109 = .ok (.goto 259, 3) := by decide +kernel
theorem d_L_law_368 : decode b_L_law 368 = .ok (.iinc 4 5, 3) := by decide +kernel
theorem d_L_law_371 : decode b_L_law 371 = .ok (.goto (-348), 3) := by decide +kernel
theorem d_L_law_112 : decode b_L_law 112 = .ok (.aload_n 1, 1) := by decide +kernel
theorem d_L_law_113 : decode b_L_law 113 = .ok (.aload_n 0, 1) := by decide +kernel
theorem d_L_law_114 : decode b_L_law 114 = .ok (.iload 4, 2) := by decide +kernel
theorem d_L_law_116 : decode b_L_law 116 = .ok (.iconst 1, 1) := by decide +kernel
theorem d_L_law_117 : decode b_L_law 117 = .ok (.iadd, 1) := by decide +kernel
theorem d_L_law_118 : decode b_L_law 118 = .ok (.iaload, 1) := by decide +kernel
theorem d_L_law_119 : decode b_L_law 119 = .ok (.aload_n 0, 1) := by decide +kernel
theorem d_L_law_120 : decode b_L_law 120 = .ok (.iload 4, 2) := by decide +kernel
theorem d_L_law_122 : decode b_L_law 122 = .ok (.iconst 2, 1) := by decide +kernel
theorem d_L_law_123 : decode b_L_law 123 = .ok (.iadd, 1) := by decide +kernel
theorem d_L_law_124 : decode b_L_law 124 = .ok (.iaload, 1) := by decide +kernel
theorem d_L_law_125 : decode b_L_law 125 = .ok (.aload_n 0, 1) := by decide +kernel
theorem d_L_law_126 : decode b_L_law 126 = .ok (.iload 4, 2) := by decide +kernel
theorem d_L_law_128 : decode b_L_law 128 = .ok (.iconst 3, 1) := by decide +kernel
theorem d_L_law_129 : decode b_L_law 129 = .ok (.iadd, 1) := by decide +kernel
theorem d_L_law_130 : decode b_L_law 130 = .ok (.iaload, 1) := by decide +kernel
theorem d_L_law_131 : decode b_L_law 131 = .ok (.aload_n 0, 1) := by decide +kernel
theorem d_L_law_132 : decode b_L_law 132 = .ok (.iload 4, 2) := by decide +kernel
theorem d_L_law_134 : decode b_L_law 134 = .ok (.iconst 4, 1) := by decide +kernel
theorem d_L_law_135 : decode b_L_law 135 = .ok (.iadd, 1) := by decide +kernel
theorem d_L_law_136 : decode b_L_law 136 = .ok (.iaload, 1) := by decide +kernel
theorem d_L_law_137 : decode b_L_law 137 = .ok (.invokestatic 43, 3) := by decide +kernel
theorem d_L_law_140 : decode b_L_law 140 = .ok (.istore 5, 2) := by decide +kernel
theorem d_L_law_142 : decode b_L_law 142 = .ok (.aload_n 2, 1) := by decide +kernel
theorem d_L_law_143 : decode b_L_law 143 = .ok (.aload_n 0, 1) := by decide +kernel
theorem d_L_law_144 : decode b_L_law 144 = .ok (.iload 4, 2) := by decide +kernel
theorem d_L_law_146 : decode b_L_law 146 = .ok (.iconst 1, 1) := by decide +kernel
theorem d_L_law_147 : decode b_L_law 147 = .ok (.iadd, 1) := by decide +kernel
theorem d_L_law_148 : decode b_L_law 148 = .ok (.iaload, 1) := by decide +kernel
theorem d_L_law_149 : decode b_L_law 149 = .ok (.aload_n 0, 1) := by decide +kernel
theorem d_L_law_150 : decode b_L_law 150 = .ok (.iload 4, 2) := by decide +kernel
theorem d_L_law_152 : decode b_L_law 152 = .ok (.iconst 2, 1) := by decide +kernel
theorem d_L_law_153 : decode b_L_law 153 = .ok (.iadd, 1) := by decide +kernel
theorem d_L_law_154 : decode b_L_law 154 = .ok (.iaload, 1) := by decide +kernel
theorem d_L_law_155 : decode b_L_law 155 = .ok (.aload_n 0, 1) := by decide +kernel
theorem d_L_law_156 : decode b_L_law 156 = .ok (.iload 4, 2) := by decide +kernel
theorem d_L_law_158 : decode b_L_law 158 = .ok (.iconst 3, 1) := by decide +kernel
theorem d_L_law_159 : decode b_L_law 159 = .ok (.iadd, 1) := by decide +kernel
theorem d_L_law_160 : decode b_L_law 160 = .ok (.iaload, 1) := by decide +kernel
theorem d_L_law_161 : decode b_L_law 161 = .ok (.aload_n 0, 1) := by decide +kernel
theorem d_L_law_162 : decode b_L_law 162 = .ok (.iload 4, 2) := by decide +kernel
theorem d_L_law_164 : decode b_L_law 164 = .ok (.iconst 4, 1) := by decide +kernel
theorem d_L_law_165 : decode b_L_law 165 = .ok (.iadd, 1) := by decide +kernel
theorem d_L_law_166 : decode b_L_law 166 = .ok (.iaload, 1) := by decide +kernel
theorem d_L_law_167 : decode b_L_law 167 = .ok (.invokevirtual 46, 3) := by decide +kernel
theorem d_L_law_170 : decode b_L_law 170 = .ok (.aload_n 2, 1) := by decide +kernel
theorem d_L_law_171 : decode b_L_law 171 = .ok (.invokevirtual 39, 3) := by decide +kernel
theorem d_L_law_174 : decode b_L_law 174 = .ok (.iload 5, 2) := by decide +kernel
theorem d_L_law_176 : decode b_L_law 176 = .ok (.if_icmp .eq 5, 3) := by decide +kernel
theorem d_L_law_181 : decode b_L_law 181 = .ok (.goto 187, 3) := by decide +kernel
theorem d_L_law_184 : decode b_L_law 184 = .ok (.aload_n 1, 1) := by decide +kernel
theorem d_L_law_185 : decode b_L_law 185 = .ok (.aload_n 0, 1) := by decide +kernel
theorem d_L_law_186 : decode b_L_law 186 = .ok (.iload 4, 2) := by decide +kernel
theorem d_L_law_188 : decode b_L_law 188 = .ok (.iconst 1, 1) := by decide +kernel
theorem d_L_law_189 : decode b_L_law 189 = .ok (.iadd, 1) := by decide +kernel
theorem d_L_law_190 : decode b_L_law 190 = .ok (.iaload, 1) := by decide +kernel
theorem d_L_law_191 : decode b_L_law 191 = .ok (.aload_n 0, 1) := by decide +kernel
theorem d_L_law_192 : decode b_L_law 192 = .ok (.iload 4, 2) := by decide +kernel
theorem d_L_law_194 : decode b_L_law 194 = .ok (.iconst 2, 1) := by decide +kernel
theorem d_L_law_195 : decode b_L_law 195 = .ok (.iadd, 1) := by decide +kernel
theorem d_L_law_196 : decode b_L_law 196 = .ok (.iaload, 1) := by decide +kernel
theorem d_L_law_197 : decode b_L_law 197 = .ok (.aload_n 3, 1) := by decide +kernel
theorem d_L_law_198 : decode b_L_law 198 = .ok (.invokestatic 47, 3) := by decide +kernel
theorem d_L_law_201 : decode b_L_law 201 = .ok (.istore 5, 2) := by decide +kernel
theorem d_L_law_203 : decode b_L_law 203 = .ok (.aload_n 2, 1) := by decide +kernel
theorem d_L_law_204 : decode b_L_law 204 = .ok (.aload_n 0, 1) := by decide +kernel
theorem d_L_law_205 : decode b_L_law 205 = .ok (.iload 4, 2) := by decide +kernel
theorem d_L_law_207 : decode b_L_law 207 = .ok (.iconst 1, 1) := by decide +kernel
theorem d_L_law_208 : decode b_L_law 208 = .ok (.iadd, 1) := by decide +kernel
theorem d_L_law_209 : decode b_L_law 209 = .ok (.iaload, 1) := by decide +kernel
theorem d_L_law_210 : decode b_L_law 210 = .ok (.aload_n 0, 1) := by decide +kernel
theorem d_L_law_211 : decode b_L_law 211 = .ok (.iload 4, 2) := by decide +kernel
theorem d_L_law_213 : decode b_L_law 213 = .ok (.iconst 2, 1) := by decide +kernel
theorem d_L_law_214 : decode b_L_law 214 = .ok (.iadd, 1) := by decide +kernel
theorem d_L_law_215 : decode b_L_law 215 = .ok (.iaload, 1) := by decide +kernel
theorem d_L_law_216 : decode b_L_law 216 = .ok (.invokevirtual 50, 3) := by decide +kernel
theorem d_L_law_219 : decode b_L_law 219 = .ok (.istore 6, 2) := by decide +kernel
theorem d_L_law_221 : decode b_L_law 221 = .ok (.aload_n 2, 1) := by decide +kernel
theorem d_L_law_222 : decode b_L_law 222 = .ok (.invokevirtual 39, 3) := by decide +kernel
theorem d_L_law_225 : decode b_L_law 225 = .ok (.iload 5, 2) := by decide +kernel
theorem d_L_law_227 : decode b_L_law 227 = .ok (.if_icmp .eq 5, 3) := by decide +kernel
theorem d_L_law_232 : decode b_L_law 232 = .ok (.iload 5, 2) := by decide +kernel
theorem d_L_law_234 : decode b_L_law 234 = .ok (.ifCond .ne 15, 3) := by decide +kernel
theorem d_L_law_249 : decode b_L_law 249 = .ok (.goto 119, 3) := by decide +kernel
theorem d_L_law_237 : decode b_L_law 237 = .ok (.aload_n 3, 1) := by decide +kernel
theorem d_L_law_238 : decode b_L_law 238 = .ok (.iconst 0, 1) := by decide +kernel
theorem d_L_law_239 : decode b_L_law 239 = .ok (.laload, 1) := by decide +kernel
theorem d_L_law_240 : decode b_L_law 240 = .ok (.iload 6, 2) := by decide +kernel
theorem d_L_law_242 : decode b_L_law 242 = .ok (.i2l, 1) := by decide +kernel
theorem d_L_law_243 : decode b_L_law 243 = .ok (.lcmp, 1) := by decide +kernel
theorem d_L_law_244 : decode b_L_law 244 = .ok (.ifCond .eq 5, 3) := by decide +kernel
theorem d_L_law_252 : decode b_L_law 252 = .ok (.aload_n 1, 1) := by decide +kernel
theorem d_L_law_253 : decode b_L_law 253 = .ok (.aload_n 0, 1) := by decide +kernel
theorem d_L_law_254 : decode b_L_law 254 = .ok (.iload 4, 2) := by decide +kernel
theorem d_L_law_256 : decode b_L_law 256 = .ok (.iconst 1, 1) := by decide +kernel
theorem d_L_law_257 : decode b_L_law 257 = .ok (.iadd, 1) := by decide +kernel
theorem d_L_law_258 : decode b_L_law 258 = .ok (.iaload, 1) := by decide +kernel
theorem d_L_law_259 : decode b_L_law 259 = .ok (.aload_n 0, 1) := by decide +kernel
theorem d_L_law_260 : decode b_L_law 260 = .ok (.iload 4, 2) := by decide +kernel
theorem d_L_law_262 : decode b_L_law 262 = .ok (.iconst 2, 1) := by decide +kernel
theorem d_L_law_263 : decode b_L_law 263 = .ok (.iadd, 1) := by decide +kernel
theorem d_L_law_264 : decode b_L_law 264 = .ok (.iaload, 1) := by decide +kernel
theorem d_L_law_265 : decode b_L_law 265 = .ok (.aload_n 0, 1) := by decide +kernel
theorem d_L_law_266 : decode b_L_law 266 = .ok (.iload 4, 2) := by decide +kernel
theorem d_L_law_268 : decode b_L_law 268 = .ok (.iconst 3, 1) := by decide +kernel
theorem d_L_law_269 : decode b_L_law 269 = .ok (.iadd, 1) := by decide +kernel
theorem d_L_law_270 : decode b_L_law 270 = .ok (.iaload, 1) := by decide +kernel
theorem d_L_law_271 : decode b_L_law 271 = .ok (.aload_n 0, 1) := by decide +kernel
theorem d_L_law_272 : decode b_L_law 272 = .ok (.iload 4, 2) := by decide +kernel
theorem d_L_law_274 : decode b_L_law 274 = .ok (.iconst 4, 1) := by decide +kernel
theorem d_L_law_275 : decode b_L_law 275 = .ok (.iadd, 1) := by decide +kernel
theorem d_L_law_276 : decode b_L_law 276 = .ok (.iaload, 1) := by decide +kernel
theorem d_L_law_277 : decode b_L_law 277 = .ok (.aload_n 3, 1) := by decide +kernel
theorem d_L_law_278 : decode b_L_law 278 = .ok (.invokestatic 51, 3) := by decide +kernel
theorem d_L_law_281 : decode b_L_law 281 = .ok (.istore 5, 2) := by decide +kernel
theorem d_L_law_283 : decode b_L_law 283 = .ok (.aload_n 2, 1) := by decide +kernel
theorem d_L_law_284 : decode b_L_law 284 = .ok (.aload_n 0, 1) := by decide +kernel
theorem d_L_law_285 : decode b_L_law 285 = .ok (.iload 4, 2) := by decide +kernel
theorem d_L_law_287 : decode b_L_law 287 = .ok (.iconst 1, 1) := by decide +kernel
theorem d_L_law_288 : decode b_L_law 288 = .ok (.iadd, 1) := by decide +kernel
theorem d_L_law_289 : decode b_L_law 289 = .ok (.iaload, 1) := by decide +kernel
theorem d_L_law_290 : decode b_L_law 290 = .ok (.aload_n 0, 1) := by decide +kernel
theorem d_L_law_291 : decode b_L_law 291 = .ok (.iload 4, 2) := by decide +kernel
theorem d_L_law_293 : decode b_L_law 293 = .ok (.iconst 2, 1) := by decide +kernel
theorem d_L_law_294 : decode b_L_law 294 = .ok (.iadd, 1) := by decide +kernel
theorem d_L_law_295 : decode b_L_law 295 = .ok (.iaload, 1) := by decide +kernel
theorem d_L_law_296 : decode b_L_law 296 = .ok (.aload_n 0, 1) := by decide +kernel
theorem d_L_law_297 : decode b_L_law 297 = .ok (.iload 4, 2) := by decide +kernel
theorem d_L_law_299 : decode b_L_law 299 = .ok (.iconst 3, 1) := by decide +kernel
theorem d_L_law_300 : decode b_L_law 300 = .ok (.iadd, 1) := by decide +kernel
theorem d_L_law_301 : decode b_L_law 301 = .ok (.iaload, 1) := by decide +kernel
theorem d_L_law_302 : decode b_L_law 302 = .ok (.aload_n 0, 1) := by decide +kernel
theorem d_L_law_303 : decode b_L_law 303 = .ok (.iload 4, 2) := by decide +kernel
theorem d_L_law_305 : decode b_L_law 305 = .ok (.iconst 4, 1) := by decide +kernel
theorem d_L_law_306 : decode b_L_law 306 = .ok (.iadd, 1) := by decide +kernel
theorem d_L_law_307 : decode b_L_law 307 = .ok (.iaload, 1) := by decide +kernel
theorem d_L_law_308 : decode b_L_law 308 = .ok (.invokevirtual 54, 3) := by decide +kernel
theorem d_L_law_311 : decode b_L_law 311 = .ok (.istore 6, 2) := by decide +kernel
theorem d_L_law_313 : decode b_L_law 313 = .ok (.aload_n 2, 1) := by decide +kernel
theorem d_L_law_314 : decode b_L_law 314 = .ok (.invokevirtual 39, 3) := by decide +kernel
theorem d_L_law_317 : decode b_L_law 317 = .ok (.iload 5, 2) := by decide +kernel
theorem d_L_law_319 : decode b_L_law 319 = .ok (.if_icmp .eq 5, 3) := by decide +kernel
theorem d_L_law_324 : decode b_L_law 324 = .ok (.iload 5, 2) := by decide +kernel
theorem d_L_law_326 : decode b_L_law 326 = .ok (.ifCond .ne 15, 3) := by decide +kernel
theorem d_L_law_341 : decode b_L_law 341 = .ok (.goto 27, 3) := by decide +kernel
theorem d_L_law_329 : decode b_L_law 329 = .ok (.aload_n 3, 1) := by decide +kernel
theorem d_L_law_330 : decode b_L_law 330 = .ok (.iconst 0, 1) := by decide +kernel
theorem d_L_law_331 : decode b_L_law 331 = .ok (.laload, 1) := by decide +kernel
theorem d_L_law_332 : decode b_L_law 332 = .ok (.iload 6, 2) := by decide +kernel
theorem d_L_law_334 : decode b_L_law 334 = .ok (.i2l, 1) := by decide +kernel
theorem d_L_law_335 : decode b_L_law 335 = .ok (.lcmp, 1) := by decide +kernel
theorem d_L_law_336 : decode b_L_law 336 = .ok (.ifCond .eq 5, 3) := by decide +kernel
theorem d_L_law_344 : decode b_L_law 344 = .ok (.aload_n 1, 1) := by decide +kernel
theorem d_L_law_345 : decode b_L_law 345 = .ok (.invokevirtual 55, 3) := by decide +kernel
theorem d_L_law_348 : decode b_L_law 348 = .ok (.aload_n 2, 1) := by decide +kernel
theorem d_L_law_349 : decode b_L_law 349 = .ok (.invokevirtual 58, 3) := by decide +kernel
theorem d_L_law_352 : decode b_L_law 352 = .ok (.if_icmp .eq 16, 3) := by decide +kernel
theorem d_L_law_357 : decode b_L_law 357 = .ok (.aload_n 1, 1) := by decide +kernel
theorem d_L_law_358 : decode b_L_law 358 = .ok (.invokevirtual 59, 3) := by decide +kernel
theorem d_L_law_361 : decode b_L_law 361 = .ok (.aload_n 2, 1) := by decide +kernel
theorem d_L_law_362 : decode b_L_law 362 = .ok (.invokevirtual 62, 3) := by decide +kernel
theorem d_L_law_365 : decode b_L_law 365 = .ok (.goto 3, 3) := by decide +kernel
set_option maxHeartbeats 40000000 in
set_option maxRecDepth 100000 in
theorem law_loop {p : Program} {l : Launch} {e : Env} {s : State} {m : MethodId} {below : List Frame} {meth : Method} {c : Code} {dC : Nat → ClassId} {dI : Nat → Nat → Nat} {b L : Nat} {xs : Nat → Int32} (hl9 : l.stackTraces = false) (hL : L ≤ 2560) (C0 : lw_At p s m meth c b L xs) (hnw : nw_all s) (hsw : sw_all s) (hZU : vx_Zq Bundle.tN "UNASSIGNED_STACK" Bundle.steD (fun q : Nat => s.heap.size ≤ q) s s.heap) (hZN : vx_Zq Bundle.tN "SUPPRESSED_SENTINEL" Bundle.listD (fun q : Nat => s.heap.size ≤ q) s s.heap) (hnc : va_Nc "java/lang/IllegalArgumentException" "java/lang/IndexOutOfBoundsException" s) (hop : lp_operate_is) :
  ∀ (n i : Nat), i ≤ L → L + 1 ≤ i + n → ∀ (x4 : Int32), x4 = nI i → ∀ (cw : Int32) (ts : Int32) (fT : Nat → Int32) (fF : Nat → Int64) (n1 : Bool) (p1 : Int32) (f1 : Int64) (n2 : Bool) (p2 : Int32) (f2 : Int64) (n3 : Bool) (p3 : Int32) (f3 : Int64) (hi : Int64) (lo : Int64) (ex : Int32) (hi2 : Int64) (lo2 : Int64) (ex2 : Int32) (cd : Int32) (wd : Int32) (al : Int32) (sz1 : Int32) (un : Int32) (mo : Bool) (tl : Int32) (sp : Bool) (tpo : Int32) (fro : Int64) (ly : Bool) (mT : Nat → Int32) (mF : Nat → Int64) (mi : Nat → Bool) (pw : Nat → Int32) (pt : Nat → Int64) (rb : Nat → Bool) (fV : Nat → Int64), lInv cw ts fT fF wd al mT mF → ∀ (cI cL kT kF kN kP kQ kR cV : ClassId) (aO aT aF a1 a2 a3 a4 a5 bM bT bF bN bP bQ bR aV : Nat) (H : Heap) (locs : List Loc), va_K (dC, dI) classes [(cI, .int), (cL, .long), (cV, .long), (kT, .int), (kF, .long), (kN, .boolean), (kP, .int), (kQ, .long), (kR, .boolean)] s → va_P (dC, dI) classes [(aO, .inr (0, [.ref aT, .ref aF, .int cw, .int ts, .ref a1, .ref a2, .ref a3, .ref a4, .ref a5])), (aT, .inl (cI, 8, .inl fT)), (aF, .inl (cL, 8, .inr (.inl fF))), (a1, .inr (1, [.int (b2i n1), .int p1, .long f1])), (a2, .inr (1, [.int (b2i n2), .int p2, .long f2])), (a3, .inr (1, [.int (b2i n3), .int p3, .long f3])), (a4, .inr (2, [.long hi, .long lo, .int ex])), (a5, .inr (2, [.long hi2, .long lo2, .int ex2])), (bM, .inr (3, [.int cd, .int wd, .ref bT, .ref bF, .int al, .ref bN, .ref bP, .ref bQ, .ref bR, .int sz1, .int un, .int (b2i mo), .int tl, .int (b2i sp), .int tpo, .long fro, .int (b2i ly)])), (bT, .inl (kT, 8, .inl mT)), (bF, .inl (kF, 8, .inr (.inl mF))), (bN, .inl (kN, 2, .inl (fun k => b2i (mi k)))), (bP, .inl (kP, 2, .inl pw)), (bQ, .inl (kQ, 2, .inr (.inl pt))), (bR, .inl (kR, 33000, .inl (fun k => b2i (rb k)))), (aV, .inl (cV, 1, .inr (.inl fV)))] H → va_D (fun q : Nat => s.heap.size ≤ q) [(aO, .inr (0, [.ref aT, .ref aF, .int cw, .int ts, .ref a1, .ref a2, .ref a3, .ref a4, .ref a5])), (aT, .inl (cI, 8, .inl fT)), (aF, .inl (cL, 8, .inr (.inl fF))), (a1, .inr (1, [.int (b2i n1), .int p1, .long f1])), (a2, .inr (1, [.int (b2i n2), .int p2, .long f2])), (a3, .inr (1, [.int (b2i n3), .int p3, .long f3])), (a4, .inr (2, [.long hi, .long lo, .int ex])), (a5, .inr (2, [.long hi2, .long lo2, .int ex2])), (bM, .inr (3, [.int cd, .int wd, .ref bT, .ref bF, .int al, .ref bN, .ref bP, .ref bQ, .ref bR, .int sz1, .int un, .int (b2i mo), .int tl, .int (b2i sp), .int tpo, .long fro, .int (b2i ly)])), (bT, .inl (kT, 8, .inl mT)), (bF, .inl (kF, 8, .inr (.inl mF))), (bN, .inl (kN, 2, .inl (fun k => b2i (mi k)))), (bP, .inl (kP, 2, .inl pw)), (bQ, .inl (kQ, 2, .inr (.inl pt))), (bR, .inl (kR, 33000, .inl (fun k => b2i (rb k)))), (aV, .inl (cV, 1, .inr (.inl fV)))] → va_S (fun q : Nat => s.heap.size ≤ q) s.heap H locs → ∀ (ls : Array Slot), lv_has ls 7 [(0, .ref b), (1, .ref aO), (2, .ref bM), (3, .ref aV), (4, .int x4)] → W p l e room_1 s m #[Value.ref b] below meth c H locs (16 + i) (33080 + 6 * i) (lw_Z below #[Value.ref b] s) (F0 m 23 ls []) := by
  obtain ⟨hx, hb, hr, hml, hown, hts, hX, hbl, hlocks, hgv⟩ := C0
  have htA : ∀ w ∈ wAll, w.before #[Value.ref b] s = true := fun w h => hts w (wAll_in w h)
  have hown : s.vm.findClass R_L = some m.cls := hown
  obtain ⟨A, eA⟩ : ∃ A : Nat → Prop, A = (fun q : Nat => s.heap.size ≤ q) := ⟨_, rfl⟩
  rw [← eA] at hZU hZN ⊢
  have hA : ∀ q : Nat, s.heap.size ≤ q → A q := fun q h => by rw [eA]; exact h
  have hbA : ¬ A b := by rw [eA]; exact Nat.not_le.mpr hbl
  have hlc : ∀ (locs : List Loc) (H : Heap), va_S A s.heap H locs → ∀ q ∈ locs, s.heap.size ≤ q.base := fun locs H h q hq => by have := h.2.2 q hq; rw [eA] at this; exact this
  intro n
  induction n with
  | zero => intro i h1 h2; exact absurd h2 (by omega)
  | succ n ih =>
    intro i hi hin x4 ex4 cw ts fT fF n1 p1 f1 n2 p2 f2 n3 p3 f3 hi lo ex hi2 lo2 ex2 cd wd al sz1 un mo tl sp tpo fro ly mT mF mi pw pt rb fV hI cI cL kT kF kN kP kQ kR cV aO aT aF a1 a2 a3 a4 a5 bM bT bF bN bP bQ bR aV H locs hK hP hD hS ls hl
    refine lv_iload hx hb d_L_law_23 (lv_at hl 4 rfl) ?_
    refine lv_aload_n hx hb d_L_law_25 rfl (lv_at hl 0 rfl) ?_
    refine va_slen hx hb hX hbl hbA hS d_L_law_26 ?_
    refine lv_iconst (v := 5) hx hb d_L_law_27 (by decide) ?_
    refine lv_isub hx hb d_L_law_28 ?_
    refine lv_icmp_gt (tgt := 374) hx hb d_L_law_29 (by decide) (fun c_29 => ?_) (fun c_29 => ?_)
    · skip
      refine lv_iconst (v := 1) hx hb d_L_law_374 (by decide) ?_
      refine va_forget (hlc _ _ hS) ?_
      refine W.widen (k := 601024) (n := 7293033) (by omega) (by omega) ?_
      exact lw_ret hx hb hr hlocks d_L_law_375
    · skip
      have hlt : i + 5 ≤ L := law_guard (by omega) hL ex4 c_29
      have hI0 : vp_in x4 L := by rw [ex4]; exact vp_in_nI (by omega) (by omega)
      have hI1 : vp_in (x4 + 1) L := law_ix 1 1 rfl (by omega) hL ex4
      have hI2 : vp_in (x4 + 2) L := law_ix 2 2 rfl (by omega) hL ex4
      have hI3 : vp_in (x4 + 3) L := law_ix 3 3 rfl (by omega) hL ex4
      have hI4 : vp_in (x4 + 4) L := law_ix 4 4 rfl (by omega) hL ex4
      refine lv_aload_n hx hb d_L_law_32 rfl (lv_at hl 0 rfl) ?_
      refine lv_iload hx hb d_L_law_33 (lv_at hl 4 rfl) ?_
      refine va_sld hx hb hX hbl hbA hS hI0 d_L_law_35 ?_
      refine lv_bipush (v := 7) hx hb d_L_law_36 (by decide) ?_
      refine lv_iand hx hb d_L_law_38 ?_
      by_cases c_39_0 : ((xs x4.toNatClampNeg) &&& 7) = 0
      · skip
        refine lv_tableIn (off := 37) (tgt := 76) hx hb d_L_law_39 (by rw [c_39_0]; decide) (by rw [c_39_0]; decide) (by rw [c_39_0]; rfl) (by decide) ?_
        refine lv_aload_n hx hb d_L_law_76 rfl (lv_at hl 1 rfl) ?_
        refine lv_aload_n hx hb d_L_law_77 rfl (lv_at hl 0 rfl) ?_
        refine lv_iload hx hb d_L_law_78 (lv_at hl 4 rfl) ?_
        refine lv_iconst (v := 1) hx hb d_L_law_80 (by decide) ?_
        refine lv_iadd hx hb d_L_law_81 ?_
        refine va_sld hx hb hX hbl hbA hS hI1 d_L_law_82 ?_
        have hPc := hP.sub (ws' := [(aO, .inr (0, [.ref aT, .ref aF, .int cw, .int ts, .ref a1, .ref a2, .ref a3, .ref a4, .ref a5]))]) [0] rfl
        have hDc := hD.sub (ws' := [(aO, .inr (0, [.ref aT, .ref aF, .int cw, .int ts, .ref a1, .ref a2, .ref a3, .ref a4, .ref a5]))]) [0] (by decide) rfl
        have hKc := hK.sub (tys' := []) [] rfl
        have hFc := va_free (wc := [(aO, .inr (0, [.ref aT, .ref aF, .int cw, .int ts, .ref a1, .ref a2, .ref a3, .ref a4, .ref a5]))]) hD hS hA [0] rfl
        refine cc_i (vx_runSW (As := [.ref aO, .int (xs (x4 + 1).toNatClampNeg)]) (rest := []) ⟨hx, hb, hml, hown, htA⟩ (c_L_control l hl9 dC dI aO aT aF a1 a2 a3 a4 a5 H.size cw ts (xs (x4 + 1).toNatClampNeg)) (vx_cwSW 2 htA (gi_S k_402 k_403 k_401 (gi_codeW k_387)) rfl rfl rfl (by decide +kernel) ⟨Nat.le_of_ble_eq_true rfl, Nat.le_of_ble_eq_true rfl⟩) (pre_L hnw hsw hZU hZN hnc hS hFc hPc hKc hDc) rfl rfl hl.1 rfl (lv_room (Nat.le_of_ble_eq_true rfl)) d_L_law_83 ⟨by show _ ≤ (601024 : Nat); omega, by show _ ≤ (7293033 : Nat); omega⟩) hS hFc hP hD [0] [1, 2, 3, 4, 5, 6, 7, 8, 9, 10, 11, 12, 13, 14, 15] (wr := [(aT, .inl (cI, 8, .inl fT)), (aF, .inl (cL, 8, .inr (.inl fF))), (a1, .inr (1, [.int (b2i n1), .int p1, .long f1])), (a2, .inr (1, [.int (b2i n2), .int p2, .long f2])), (a3, .inr (1, [.int (b2i n3), .int p3, .long f3])), (a4, .inr (2, [.long hi, .long lo, .int ex])), (a5, .inr (2, [.long hi2, .long lo2, .int ex2])), (bM, .inr (3, [.int cd, .int wd, .ref bT, .ref bF, .int al, .ref bN, .ref bP, .ref bQ, .ref bR, .int sz1, .int un, .int (b2i mo), .int tl, .int (b2i sp), .int tpo, .long fro, .int (b2i ly)])), (bT, .inl (kT, 8, .inl mT)), (bF, .inl (kF, 8, .inr (.inl mF))), (bN, .inl (kN, 2, .inl (fun k => b2i (mi k)))), (bP, .inl (kP, 2, .inl pw)), (bQ, .inl (kQ, 2, .inr (.inl pt))), (bR, .inl (kR, 33000, .inl (fun k => b2i (rb k)))), (aV, .inl (cV, 1, .inr (.inl fV)))]) rfl rfl (by decide) (by decide) (fun H locs hP hD hS => ?_)
        obtain ⟨z83, ez83⟩ : ∃ z, g_L_control cw (xs (x4 + 1).toNatClampNeg) = z := ⟨_, rfl⟩
        rw [ez83] at hP hD ⊢
        have hP : va_P (dC, dI) classes [(aT, .inl (cI, 8, .inl fT)), (aF, .inl (cL, 8, .inr (.inl fF))), (a1, .inr (1, [.int (b2i n1), .int p1, .long f1])), (a2, .inr (1, [.int (b2i n2), .int p2, .long f2])), (a3, .inr (1, [.int (b2i n3), .int p3, .long f3])), (a4, .inr (2, [.long hi, .long lo, .int ex])), (a5, .inr (2, [.long hi2, .long lo2, .int ex2])), (bM, .inr (3, [.int cd, .int wd, .ref bT, .ref bF, .int al, .ref bN, .ref bP, .ref bQ, .ref bR, .int sz1, .int un, .int (b2i mo), .int tl, .int (b2i sp), .int tpo, .long fro, .int (b2i ly)])), (bT, .inl (kT, 8, .inl mT)), (bF, .inl (kF, 8, .inr (.inl mF))), (bN, .inl (kN, 2, .inl (fun k => b2i (mi k)))), (bP, .inl (kP, 2, .inl pw)), (bQ, .inl (kQ, 2, .inr (.inl pt))), (bR, .inl (kR, 33000, .inl (fun k => b2i (rb k)))), (aV, .inl (cV, 1, .inr (.inl fV))), (aO, .inr (0, [.ref aT, .ref aF, .int z83.2, .int ts, .ref a1, .ref a2, .ref a3, .ref a4, .ref a5]))] H := hP
        have hD : va_D A [(aT, .inl (cI, 8, .inl fT)), (aF, .inl (cL, 8, .inr (.inl fF))), (a1, .inr (1, [.int (b2i n1), .int p1, .long f1])), (a2, .inr (1, [.int (b2i n2), .int p2, .long f2])), (a3, .inr (1, [.int (b2i n3), .int p3, .long f3])), (a4, .inr (2, [.long hi, .long lo, .int ex])), (a5, .inr (2, [.long hi2, .long lo2, .int ex2])), (bM, .inr (3, [.int cd, .int wd, .ref bT, .ref bF, .int al, .ref bN, .ref bP, .ref bQ, .ref bR, .int sz1, .int un, .int (b2i mo), .int tl, .int (b2i sp), .int tpo, .long fro, .int (b2i ly)])), (bT, .inl (kT, 8, .inl mT)), (bF, .inl (kF, 8, .inr (.inl mF))), (bN, .inl (kN, 2, .inl (fun k => b2i (mi k)))), (bP, .inl (kP, 2, .inl pw)), (bQ, .inl (kQ, 2, .inr (.inl pt))), (bR, .inl (kR, 33000, .inl (fun k => b2i (rb k)))), (aV, .inl (cV, 1, .inr (.inl fV))), (aO, .inr (0, [.ref aT, .ref aF, .int z83.2, .int ts, .ref a1, .ref a2, .ref a3, .ref a4, .ref a5]))] := hD
        refine lv_istore (lv' := [(5, .int z83.1), (0, .ref b), (1, .ref aO), (2, .ref bM), (3, .ref aV), (4, .int x4)]) hx hb d_L_law_86 hl (by decide) rfl (fun ls hl => ?_)
        refine lv_aload_n hx hb d_L_law_88 rfl (lv_at hl 3 rfl) ?_
        refine lv_aload_n hx hb d_L_law_89 rfl (lv_at hl 1 rfl) ?_
        refine lv_iload hx hb d_L_law_90 (lv_at hl 5 rfl) ?_
        refine lv_iconst (v := 1) hx hb d_L_law_92 (by decide) ?_
        refine lv_iadd hx hb d_L_law_93 ?_
        refine va_sld hx hb hX hbl hbA hS hI1 d_L_law_94 ?_
        have hPc := hP.sub (ws' := [(bM, .inr (3, [.int cd, .int wd, .ref bT, .ref bF, .int al, .ref bN, .ref bP, .ref bQ, .ref bR, .int sz1, .int un, .int (b2i mo), .int tl, .int (b2i sp), .int tpo, .long fro, .int (b2i ly)]))]) [7] rfl
        have hDc := hD.sub (ws' := [(bM, .inr (3, [.int cd, .int wd, .ref bT, .ref bF, .int al, .ref bN, .ref bP, .ref bQ, .ref bR, .int sz1, .int un, .int (b2i mo), .int tl, .int (b2i sp), .int tpo, .long fro, .int (b2i ly)]))]) [7] (by decide) rfl
        have hKc := hK.sub (tys' := []) [] rfl
        have hFc := va_free (wc := [(bM, .inr (3, [.int cd, .int wd, .ref bT, .ref bF, .int al, .ref bN, .ref bP, .ref bQ, .ref bR, .int sz1, .int un, .int (b2i mo), .int tl, .int (b2i sp), .int tpo, .long fro, .int (b2i ly)]))]) hD hS hA [7] rfl
        refine cc_v (va_runV (As := [.int (xs (x4 + 1).toNatClampNeg)]) (rest := []) ⟨hx, hb, hml, hown, htA⟩ (c_M_control l dC dI bM bT bF bN bP bQ bR H.size cd wd al sz1 un mo tl sp tpo fro ly (xs (x4 + 1).toNatClampNeg)) (cwV 1 htA (gi_V k_404 k_405 k_406 k_263 (gi_code k_247)) rfl rfl rfl (by decide +kernel) ⟨Nat.le_of_ble_eq_true rfl, Nat.le_of_ble_eq_true rfl⟩) (pre_V hnw hPc hKc hDc (ci := 3) (q0 := 0) rfl rfl) rfl rfl hl.1 rfl (lv_room (Nat.le_of_ble_eq_true rfl)) d_L_law_95 ⟨by show _ ≤ (601024 : Nat); omega, by show _ ≤ (7293033 : Nat); omega⟩) hS hFc hP hD [7] [0, 1, 2, 3, 4, 5, 6, 8, 9, 10, 11, 12, 13, 14, 15] (wr := [(aT, .inl (cI, 8, .inl fT)), (aF, .inl (cL, 8, .inr (.inl fF))), (a1, .inr (1, [.int (b2i n1), .int p1, .long f1])), (a2, .inr (1, [.int (b2i n2), .int p2, .long f2])), (a3, .inr (1, [.int (b2i n3), .int p3, .long f3])), (a4, .inr (2, [.long hi, .long lo, .int ex])), (a5, .inr (2, [.long hi2, .long lo2, .int ex2])), (bT, .inl (kT, 8, .inl mT)), (bF, .inl (kF, 8, .inr (.inl mF))), (bN, .inl (kN, 2, .inl (fun k => b2i (mi k)))), (bP, .inl (kP, 2, .inl pw)), (bQ, .inl (kQ, 2, .inr (.inl pt))), (bR, .inl (kR, 33000, .inl (fun k => b2i (rb k)))), (aV, .inl (cV, 1, .inr (.inl fV))), (aO, .inr (0, [.ref aT, .ref aF, .int z83.2, .int ts, .ref a1, .ref a2, .ref a3, .ref a4, .ref a5]))]) rfl rfl (by decide) (by decide) (fun H locs hP hD hS => ?_)
        obtain ⟨z95, ez95⟩ : ∃ z, g_M_control wd (xs (x4 + 1).toNatClampNeg) = z := ⟨_, rfl⟩
        rw [ez95] at hP hD
        have hP : va_P (dC, dI) classes [(aT, .inl (cI, 8, .inl fT)), (aF, .inl (cL, 8, .inr (.inl fF))), (a1, .inr (1, [.int (b2i n1), .int p1, .long f1])), (a2, .inr (1, [.int (b2i n2), .int p2, .long f2])), (a3, .inr (1, [.int (b2i n3), .int p3, .long f3])), (a4, .inr (2, [.long hi, .long lo, .int ex])), (a5, .inr (2, [.long hi2, .long lo2, .int ex2])), (bT, .inl (kT, 8, .inl mT)), (bF, .inl (kF, 8, .inr (.inl mF))), (bN, .inl (kN, 2, .inl (fun k => b2i (mi k)))), (bP, .inl (kP, 2, .inl pw)), (bQ, .inl (kQ, 2, .inr (.inl pt))), (bR, .inl (kR, 33000, .inl (fun k => b2i (rb k)))), (aV, .inl (cV, 1, .inr (.inl fV))), (aO, .inr (0, [.ref aT, .ref aF, .int z83.2, .int ts, .ref a1, .ref a2, .ref a3, .ref a4, .ref a5])), (bM, .inr (3, [.int z95.1, .int z95.2, .ref bT, .ref bF, .int al, .ref bN, .ref bP, .ref bQ, .ref bR, .int sz1, .int un, .int (b2i mo), .int tl, .int (b2i sp), .int tpo, .long fro, .int (b2i ly)]))] H := hP
        have hD : va_D A [(aT, .inl (cI, 8, .inl fT)), (aF, .inl (cL, 8, .inr (.inl fF))), (a1, .inr (1, [.int (b2i n1), .int p1, .long f1])), (a2, .inr (1, [.int (b2i n2), .int p2, .long f2])), (a3, .inr (1, [.int (b2i n3), .int p3, .long f3])), (a4, .inr (2, [.long hi, .long lo, .int ex])), (a5, .inr (2, [.long hi2, .long lo2, .int ex2])), (bT, .inl (kT, 8, .inl mT)), (bF, .inl (kF, 8, .inr (.inl mF))), (bN, .inl (kN, 2, .inl (fun k => b2i (mi k)))), (bP, .inl (kP, 2, .inl pw)), (bQ, .inl (kQ, 2, .inr (.inl pt))), (bR, .inl (kR, 33000, .inl (fun k => b2i (rb k)))), (aV, .inl (cV, 1, .inr (.inl fV))), (aO, .inr (0, [.ref aT, .ref aF, .int z83.2, .int ts, .ref a1, .ref a2, .ref a3, .ref a4, .ref a5])), (bM, .inr (3, [.int z95.1, .int z95.2, .ref bT, .ref bF, .int al, .ref bN, .ref bP, .ref bQ, .ref bR, .int sz1, .int un, .int (b2i mo), .int tl, .int (b2i sp), .int tpo, .long fro, .int (b2i ly)]))] := hD
        refine lv_aload_n hx hb d_L_law_98 rfl (lv_at hl 3 rfl) ?_
        have hPc := hP.sub (ws' := [(bM, .inr (3, [.int z95.1, .int z95.2, .ref bT, .ref bF, .int al, .ref bN, .ref bP, .ref bQ, .ref bR, .int sz1, .int un, .int (b2i mo), .int tl, .int (b2i sp), .int tpo, .long fro, .int (b2i ly)]))]) [15] rfl
        have hDc := hD.sub (ws' := [(bM, .inr (3, [.int z95.1, .int z95.2, .ref bT, .ref bF, .int al, .ref bN, .ref bP, .ref bQ, .ref bR, .int sz1, .int un, .int (b2i mo), .int tl, .int (b2i sp), .int tpo, .long fro, .int (b2i ly)]))]) [15] (by decide) rfl
        have hKc := hK.sub (tys' := []) [] rfl
        have hFc := va_free (wc := [(bM, .inr (3, [.int z95.1, .int z95.2, .ref bT, .ref bF, .int al, .ref bN, .ref bP, .ref bQ, .ref bR, .int sz1, .int un, .int (b2i mo), .int tl, .int (b2i sp), .int tpo, .long fro, .int (b2i ly)]))]) hD hS hA [15] rfl
        refine cc_i (va_runV (As := []) (rest := []) ⟨hx, hb, hml, hown, htA⟩ (c_M_thrown l dC dI bM bT bF bN bP bQ bR H.size z95.1 z95.2 al sz1 un mo tl sp tpo fro ly) (cwV 0 htA (gi_V k_407 k_408 k_409 k_263 (gi_code k_240)) rfl rfl rfl (by decide +kernel) ⟨Nat.le_of_ble_eq_true rfl, Nat.le_of_ble_eq_true rfl⟩) (pre_V hnw hPc hKc hDc (ci := 3) (q0 := 0) rfl rfl) rfl rfl hl.1 rfl (lv_room (Nat.le_of_ble_eq_true rfl)) d_L_law_99 ⟨by show _ ≤ (601024 : Nat); omega, by show _ ≤ (7293033 : Nat); omega⟩) hS hFc hP hD [15] [0, 1, 2, 3, 4, 5, 6, 7, 8, 9, 10, 11, 12, 13, 14] (wr := [(aT, .inl (cI, 8, .inl fT)), (aF, .inl (cL, 8, .inr (.inl fF))), (a1, .inr (1, [.int (b2i n1), .int p1, .long f1])), (a2, .inr (1, [.int (b2i n2), .int p2, .long f2])), (a3, .inr (1, [.int (b2i n3), .int p3, .long f3])), (a4, .inr (2, [.long hi, .long lo, .int ex])), (a5, .inr (2, [.long hi2, .long lo2, .int ex2])), (bT, .inl (kT, 8, .inl mT)), (bF, .inl (kF, 8, .inr (.inl mF))), (bN, .inl (kN, 2, .inl (fun k => b2i (mi k)))), (bP, .inl (kP, 2, .inl pw)), (bQ, .inl (kQ, 2, .inr (.inl pt))), (bR, .inl (kR, 33000, .inl (fun k => b2i (rb k)))), (aV, .inl (cV, 1, .inr (.inl fV))), (aO, .inr (0, [.ref aT, .ref aF, .int z83.2, .int ts, .ref a1, .ref a2, .ref a3, .ref a4, .ref a5]))]) rfl rfl (by decide) (by decide) (fun H locs hP hD hS => ?_)
        have hP : va_P (dC, dI) classes [(aT, .inl (cI, 8, .inl fT)), (aF, .inl (cL, 8, .inr (.inl fF))), (a1, .inr (1, [.int (b2i n1), .int p1, .long f1])), (a2, .inr (1, [.int (b2i n2), .int p2, .long f2])), (a3, .inr (1, [.int (b2i n3), .int p3, .long f3])), (a4, .inr (2, [.long hi, .long lo, .int ex])), (a5, .inr (2, [.long hi2, .long lo2, .int ex2])), (bT, .inl (kT, 8, .inl mT)), (bF, .inl (kF, 8, .inr (.inl mF))), (bN, .inl (kN, 2, .inl (fun k => b2i (mi k)))), (bP, .inl (kP, 2, .inl pw)), (bQ, .inl (kQ, 2, .inr (.inl pt))), (bR, .inl (kR, 33000, .inl (fun k => b2i (rb k)))), (aV, .inl (cV, 1, .inr (.inl fV))), (aO, .inr (0, [.ref aT, .ref aF, .int z83.2, .int ts, .ref a1, .ref a2, .ref a3, .ref a4, .ref a5])), (bM, .inr (3, [.int z95.1, .int z95.2, .ref bT, .ref bF, .int al, .ref bN, .ref bP, .ref bQ, .ref bR, .int sz1, .int un, .int (b2i mo), .int tl, .int (b2i sp), .int tpo, .long fro, .int (b2i ly)]))] H := hP
        have hD : va_D A [(aT, .inl (cI, 8, .inl fT)), (aF, .inl (cL, 8, .inr (.inl fF))), (a1, .inr (1, [.int (b2i n1), .int p1, .long f1])), (a2, .inr (1, [.int (b2i n2), .int p2, .long f2])), (a3, .inr (1, [.int (b2i n3), .int p3, .long f3])), (a4, .inr (2, [.long hi, .long lo, .int ex])), (a5, .inr (2, [.long hi2, .long lo2, .int ex2])), (bT, .inl (kT, 8, .inl mT)), (bF, .inl (kF, 8, .inr (.inl mF))), (bN, .inl (kN, 2, .inl (fun k => b2i (mi k)))), (bP, .inl (kP, 2, .inl pw)), (bQ, .inl (kQ, 2, .inr (.inl pt))), (bR, .inl (kR, 33000, .inl (fun k => b2i (rb k)))), (aV, .inl (cV, 1, .inr (.inl fV))), (aO, .inr (0, [.ref aT, .ref aF, .int z83.2, .int ts, .ref a1, .ref a2, .ref a3, .ref a4, .ref a5])), (bM, .inr (3, [.int z95.1, .int z95.2, .ref bT, .ref bF, .int al, .ref bN, .ref bP, .ref bQ, .ref bR, .int sz1, .int un, .int (b2i mo), .int tl, .int (b2i sp), .int tpo, .long fro, .int (b2i ly)]))] := hD
        refine lv_iload hx hb d_L_law_102 (lv_at hl 0 rfl) ?_
        refine lv_icmp_eq (tgt := 109) hx hb d_L_law_104 (by decide) (fun c_104 => ?_) (fun c_104 => ?_)
        · skip
          refine lv_goto (tgt := 368) hx hb d_L_law_109 (by decide) ?_
          refine lv_iinc (v := (x4 + 5)) (lv' := [(4, .int (x4 + 5)), (5, .int z83.1), (0, .ref b), (1, .ref aO), (2, .ref bM), (3, .ref aV)]) hx hb d_L_law_368 hl (k := 5) rfl rfl (by decide) rfl (fun ls hl => ?_)
          refine lv_goto (tgt := 23) hx hb d_L_law_371 (by decide) ?_
          refine W.widen (k := 16 + (i + 5)) (n := 33080 + 6 * (i + 5)) (by omega) (by omega) ?_
          exact ih (i + 5) hlt (by omega) (x4 + 5) (by rw [ex4]; exact nI_add5 i) z83.2 ts fT fF n1 p1 f1 n2 p2 f2 n3 p3 f3 hi lo ex hi2 lo2 ex2 z95.1 z95.2 al sz1 un mo tl sp tpo fro ly mT mF mi pw pt rb fV (by clear hP hD hl hS; subst ez95; subst ez83; exact (lp_control hI (xs (x4 + 1).toNatClampNeg)).2) cI cL kT kF kN kP kQ kR cV aO aT aF a1 a2 a3 a4 a5 bM bT bF bN bP bQ bR aV H locs hK (hP.sub [14, 0, 1, 2, 3, 4, 5, 6, 15, 7, 8, 9, 10, 11, 12, 13] rfl) (hD.sub [14, 0, 1, 2, 3, 4, 5, 6, 15, 7, 8, 9, 10, 11, 12, 13] (by decide) rfl) hS ls (lv_sub hl [2, 3, 4, 5, 0] rfl)
        · skip
          exact absurd (by clear hP hD hl hS; subst ez95; subst ez83; exact (lp_control hI (xs (x4 + 1).toNatClampNeg)).1.symm) c_104
      · skip
        by_cases c_39_1 : ((xs x4.toNatClampNeg) &&& 7) = 1
        · skip
          refine lv_tableIn (off := 73) (tgt := 112) hx hb d_L_law_39 (by rw [c_39_1]; decide) (by rw [c_39_1]; decide) (by rw [c_39_1]; rfl) (by decide) ?_
          refine lv_aload_n hx hb d_L_law_112 rfl (lv_at hl 1 rfl) ?_
          refine lv_aload_n hx hb d_L_law_113 rfl (lv_at hl 0 rfl) ?_
          refine lv_iload hx hb d_L_law_114 (lv_at hl 4 rfl) ?_
          refine lv_iconst (v := 1) hx hb d_L_law_116 (by decide) ?_
          refine lv_iadd hx hb d_L_law_117 ?_
          refine va_sld hx hb hX hbl hbA hS hI1 d_L_law_118 ?_
          refine lv_aload_n hx hb d_L_law_119 rfl (lv_at hl 0 rfl) ?_
          refine lv_iload hx hb d_L_law_120 (lv_at hl 4 rfl) ?_
          refine lv_iconst (v := 2) hx hb d_L_law_122 (by decide) ?_
          refine lv_iadd hx hb d_L_law_123 ?_
          refine va_sld hx hb hX hbl hbA hS hI2 d_L_law_124 ?_
          refine lv_aload_n hx hb d_L_law_125 rfl (lv_at hl 0 rfl) ?_
          refine lv_iload hx hb d_L_law_126 (lv_at hl 4 rfl) ?_
          refine lv_iconst (v := 3) hx hb d_L_law_128 (by decide) ?_
          refine lv_iadd hx hb d_L_law_129 ?_
          refine va_sld hx hb hX hbl hbA hS hI3 d_L_law_130 ?_
          refine lv_aload_n hx hb d_L_law_131 rfl (lv_at hl 0 rfl) ?_
          refine lv_iload hx hb d_L_law_132 (lv_at hl 4 rfl) ?_
          refine lv_iconst (v := 4) hx hb d_L_law_134 (by decide) ?_
          refine lv_iadd hx hb d_L_law_135 ?_
          refine va_sld hx hb hX hbl hbA hS hI4 d_L_law_136 ?_
          have hPc := hP.sub (ws' := [(aO, .inr (0, [.ref aT, .ref aF, .int cw, .int ts, .ref a1, .ref a2, .ref a3, .ref a4, .ref a5])), (aT, .inl (cI, 8, .inl fT)), (aF, .inl (cL, 8, .inr (.inl fF)))]) [0, 1, 2] rfl
          have hDc := hD.sub (ws' := [(aO, .inr (0, [.ref aT, .ref aF, .int cw, .int ts, .ref a1, .ref a2, .ref a3, .ref a4, .ref a5])), (aT, .inl (cI, 8, .inl fT)), (aF, .inl (cL, 8, .inr (.inl fF)))]) [0, 1, 2] (by decide) rfl
          have hKc := hK.sub (tys' := [(cI, .int), (cL, .long)]) [0, 1] rfl
          have hFc := va_free (wc := [(aO, .inr (0, [.ref aT, .ref aF, .int cw, .int ts, .ref a1, .ref a2, .ref a3, .ref a4, .ref a5])), (aT, .inl (cI, 8, .inl fT)), (aF, .inl (cL, 8, .inr (.inl fF)))]) hD hS hA [0, 1, 2] rfl
          refine cc_i (vx_runSW (As := [.ref aO, .int (xs (x4 + 1).toNatClampNeg), .int (xs (x4 + 2).toNatClampNeg), .int (xs (x4 + 3).toNatClampNeg), .int (xs (x4 + 4).toNatClampNeg)]) (rest := []) ⟨hx, hb, hml, hown, htA⟩ (c_L_set l hl9 dC dI cI cL aO aT aF a1 a2 a3 a4 a5 H.size cw ts fT fF (xs (x4 + 1).toNatClampNeg) (xs (x4 + 2).toNatClampNeg) (xs (x4 + 3).toNatClampNeg) (xs (x4 + 4).toNatClampNeg)) (vx_cwSW 5 htA (gi_S k_410 k_411 k_401 (gi_codeW k_392)) rfl rfl rfl (by decide +kernel) ⟨Nat.le_of_ble_eq_true rfl, Nat.le_of_ble_eq_true rfl⟩) (pre_L hnw hsw hZU hZN hnc hS hFc hPc hKc hDc) rfl rfl hl.1 rfl (lv_room (Nat.le_of_ble_eq_true rfl)) d_L_law_137 ⟨by show _ ≤ (601024 : Nat); omega, by show _ ≤ (7293033 : Nat); omega⟩) hS hFc hP hD [0, 1, 2] [3, 4, 5, 6, 7, 8, 9, 10, 11, 12, 13, 14, 15] (wr := [(a1, .inr (1, [.int (b2i n1), .int p1, .long f1])), (a2, .inr (1, [.int (b2i n2), .int p2, .long f2])), (a3, .inr (1, [.int (b2i n3), .int p3, .long f3])), (a4, .inr (2, [.long hi, .long lo, .int ex])), (a5, .inr (2, [.long hi2, .long lo2, .int ex2])), (bM, .inr (3, [.int cd, .int wd, .ref bT, .ref bF, .int al, .ref bN, .ref bP, .ref bQ, .ref bR, .int sz1, .int un, .int (b2i mo), .int tl, .int (b2i sp), .int tpo, .long fro, .int (b2i ly)])), (bT, .inl (kT, 8, .inl mT)), (bF, .inl (kF, 8, .inr (.inl mF))), (bN, .inl (kN, 2, .inl (fun k => b2i (mi k)))), (bP, .inl (kP, 2, .inl pw)), (bQ, .inl (kQ, 2, .inr (.inl pt))), (bR, .inl (kR, 33000, .inl (fun k => b2i (rb k)))), (aV, .inl (cV, 1, .inr (.inl fV)))]) rfl rfl (by decide) (by decide) (fun H locs hP hD hS => ?_)
          obtain ⟨z137, ez137⟩ : ∃ z, g_L_set fT fF (xs (x4 + 1).toNatClampNeg) (xs (x4 + 2).toNatClampNeg) (xs (x4 + 3).toNatClampNeg) (xs (x4 + 4).toNatClampNeg) = z := ⟨_, rfl⟩
          rw [ez137] at hP hD ⊢
          have hP : va_P (dC, dI) classes [(a1, .inr (1, [.int (b2i n1), .int p1, .long f1])), (a2, .inr (1, [.int (b2i n2), .int p2, .long f2])), (a3, .inr (1, [.int (b2i n3), .int p3, .long f3])), (a4, .inr (2, [.long hi, .long lo, .int ex])), (a5, .inr (2, [.long hi2, .long lo2, .int ex2])), (bM, .inr (3, [.int cd, .int wd, .ref bT, .ref bF, .int al, .ref bN, .ref bP, .ref bQ, .ref bR, .int sz1, .int un, .int (b2i mo), .int tl, .int (b2i sp), .int tpo, .long fro, .int (b2i ly)])), (bT, .inl (kT, 8, .inl mT)), (bF, .inl (kF, 8, .inr (.inl mF))), (bN, .inl (kN, 2, .inl (fun k => b2i (mi k)))), (bP, .inl (kP, 2, .inl pw)), (bQ, .inl (kQ, 2, .inr (.inl pt))), (bR, .inl (kR, 33000, .inl (fun k => b2i (rb k)))), (aV, .inl (cV, 1, .inr (.inl fV))), (aO, .inr (0, [.ref aT, .ref aF, .int cw, .int ts, .ref a1, .ref a2, .ref a3, .ref a4, .ref a5])), (aT, .inl (cI, 8, .inl z137.2.1)), (aF, .inl (cL, 8, .inr (.inl z137.2.2)))] H := hP
          have hD : va_D A [(a1, .inr (1, [.int (b2i n1), .int p1, .long f1])), (a2, .inr (1, [.int (b2i n2), .int p2, .long f2])), (a3, .inr (1, [.int (b2i n3), .int p3, .long f3])), (a4, .inr (2, [.long hi, .long lo, .int ex])), (a5, .inr (2, [.long hi2, .long lo2, .int ex2])), (bM, .inr (3, [.int cd, .int wd, .ref bT, .ref bF, .int al, .ref bN, .ref bP, .ref bQ, .ref bR, .int sz1, .int un, .int (b2i mo), .int tl, .int (b2i sp), .int tpo, .long fro, .int (b2i ly)])), (bT, .inl (kT, 8, .inl mT)), (bF, .inl (kF, 8, .inr (.inl mF))), (bN, .inl (kN, 2, .inl (fun k => b2i (mi k)))), (bP, .inl (kP, 2, .inl pw)), (bQ, .inl (kQ, 2, .inr (.inl pt))), (bR, .inl (kR, 33000, .inl (fun k => b2i (rb k)))), (aV, .inl (cV, 1, .inr (.inl fV))), (aO, .inr (0, [.ref aT, .ref aF, .int cw, .int ts, .ref a1, .ref a2, .ref a3, .ref a4, .ref a5])), (aT, .inl (cI, 8, .inl z137.2.1)), (aF, .inl (cL, 8, .inr (.inl z137.2.2)))] := hD
          refine lv_istore (lv' := [(5, .int z137.1), (0, .ref b), (1, .ref aO), (2, .ref bM), (3, .ref aV), (4, .int x4)]) hx hb d_L_law_140 hl (by decide) rfl (fun ls hl => ?_)
          refine lv_aload_n hx hb d_L_law_142 rfl (lv_at hl 3 rfl) ?_
          refine lv_aload_n hx hb d_L_law_143 rfl (lv_at hl 1 rfl) ?_
          refine lv_iload hx hb d_L_law_144 (lv_at hl 5 rfl) ?_
          refine lv_iconst (v := 1) hx hb d_L_law_146 (by decide) ?_
          refine lv_iadd hx hb d_L_law_147 ?_
          refine va_sld hx hb hX hbl hbA hS hI1 d_L_law_148 ?_
          refine lv_aload_n hx hb d_L_law_149 rfl (lv_at hl 1 rfl) ?_
          refine lv_iload hx hb d_L_law_150 (lv_at hl 5 rfl) ?_
          refine lv_iconst (v := 2) hx hb d_L_law_152 (by decide) ?_
          refine lv_iadd hx hb d_L_law_153 ?_
          refine va_sld hx hb hX hbl hbA hS hI2 d_L_law_154 ?_
          refine lv_aload_n hx hb d_L_law_155 rfl (lv_at hl 1 rfl) ?_
          refine lv_iload hx hb d_L_law_156 (lv_at hl 5 rfl) ?_
          refine lv_iconst (v := 3) hx hb d_L_law_158 (by decide) ?_
          refine lv_iadd hx hb d_L_law_159 ?_
          refine va_sld hx hb hX hbl hbA hS hI3 d_L_law_160 ?_
          refine lv_aload_n hx hb d_L_law_161 rfl (lv_at hl 1 rfl) ?_
          refine lv_iload hx hb d_L_law_162 (lv_at hl 5 rfl) ?_
          refine lv_iconst (v := 4) hx hb d_L_law_164 (by decide) ?_
          refine lv_iadd hx hb d_L_law_165 ?_
          refine va_sld hx hb hX hbl hbA hS hI4 d_L_law_166 ?_
          have hPc := hP.sub (ws' := [(bM, .inr (3, [.int cd, .int wd, .ref bT, .ref bF, .int al, .ref bN, .ref bP, .ref bQ, .ref bR, .int sz1, .int un, .int (b2i mo), .int tl, .int (b2i sp), .int tpo, .long fro, .int (b2i ly)])), (bT, .inl (kT, 8, .inl mT)), (bF, .inl (kF, 8, .inr (.inl mF)))]) [5, 6, 7] rfl
          have hDc := hD.sub (ws' := [(bM, .inr (3, [.int cd, .int wd, .ref bT, .ref bF, .int al, .ref bN, .ref bP, .ref bQ, .ref bR, .int sz1, .int un, .int (b2i mo), .int tl, .int (b2i sp), .int tpo, .long fro, .int (b2i ly)])), (bT, .inl (kT, 8, .inl mT)), (bF, .inl (kF, 8, .inr (.inl mF)))]) [5, 6, 7] (by decide) rfl
          have hKc := hK.sub (tys' := [(kT, .int), (kF, .long)]) [3, 4] rfl
          have hFc := va_free (wc := [(bM, .inr (3, [.int cd, .int wd, .ref bT, .ref bF, .int al, .ref bN, .ref bP, .ref bQ, .ref bR, .int sz1, .int un, .int (b2i mo), .int tl, .int (b2i sp), .int tpo, .long fro, .int (b2i ly)])), (bT, .inl (kT, 8, .inl mT)), (bF, .inl (kF, 8, .inr (.inl mF)))]) hD hS hA [5, 6, 7] rfl
          refine cc_v (va_runV (As := [.int (xs (x4 + 1).toNatClampNeg), .int (xs (x4 + 2).toNatClampNeg), .int (xs (x4 + 3).toNatClampNeg), .int (xs (x4 + 4).toNatClampNeg)]) (rest := []) ⟨hx, hb, hml, hown, htA⟩ (c_M_set l dC dI kT kF bM bT bF bN bP bQ bR H.size cd wd al sz1 un mo tl sp tpo fro ly mT mF (xs (x4 + 1).toNatClampNeg) (xs (x4 + 2).toNatClampNeg) (xs (x4 + 3).toNatClampNeg) (xs (x4 + 4).toNatClampNeg)) (cwV 4 htA (gi_V k_412 k_413 k_414 k_263 (gi_code k_269)) rfl rfl rfl (by decide +kernel) ⟨Nat.le_of_ble_eq_true rfl, Nat.le_of_ble_eq_true rfl⟩) (pre_V hnw hPc hKc hDc (ci := 3) (q0 := 0) rfl rfl) rfl rfl hl.1 rfl (lv_room (Nat.le_of_ble_eq_true rfl)) d_L_law_167 ⟨by show _ ≤ (601024 : Nat); omega, by show _ ≤ (7293033 : Nat); omega⟩) hS hFc hP hD [5, 6, 7] [0, 1, 2, 3, 4, 8, 9, 10, 11, 12, 13, 14, 15] (wr := [(a1, .inr (1, [.int (b2i n1), .int p1, .long f1])), (a2, .inr (1, [.int (b2i n2), .int p2, .long f2])), (a3, .inr (1, [.int (b2i n3), .int p3, .long f3])), (a4, .inr (2, [.long hi, .long lo, .int ex])), (a5, .inr (2, [.long hi2, .long lo2, .int ex2])), (bN, .inl (kN, 2, .inl (fun k => b2i (mi k)))), (bP, .inl (kP, 2, .inl pw)), (bQ, .inl (kQ, 2, .inr (.inl pt))), (bR, .inl (kR, 33000, .inl (fun k => b2i (rb k)))), (aV, .inl (cV, 1, .inr (.inl fV))), (aO, .inr (0, [.ref aT, .ref aF, .int cw, .int ts, .ref a1, .ref a2, .ref a3, .ref a4, .ref a5])), (aT, .inl (cI, 8, .inl z137.2.1)), (aF, .inl (cL, 8, .inr (.inl z137.2.2)))]) rfl rfl (by decide) (by decide) (fun H locs hP hD hS => ?_)
          obtain ⟨z167, ez167⟩ : ∃ z, g_M_set mT mF (xs (x4 + 1).toNatClampNeg) (xs (x4 + 2).toNatClampNeg) (xs (x4 + 3).toNatClampNeg) (xs (x4 + 4).toNatClampNeg) = z := ⟨_, rfl⟩
          rw [ez167] at hP hD
          have hP : va_P (dC, dI) classes [(a1, .inr (1, [.int (b2i n1), .int p1, .long f1])), (a2, .inr (1, [.int (b2i n2), .int p2, .long f2])), (a3, .inr (1, [.int (b2i n3), .int p3, .long f3])), (a4, .inr (2, [.long hi, .long lo, .int ex])), (a5, .inr (2, [.long hi2, .long lo2, .int ex2])), (bN, .inl (kN, 2, .inl (fun k => b2i (mi k)))), (bP, .inl (kP, 2, .inl pw)), (bQ, .inl (kQ, 2, .inr (.inl pt))), (bR, .inl (kR, 33000, .inl (fun k => b2i (rb k)))), (aV, .inl (cV, 1, .inr (.inl fV))), (aO, .inr (0, [.ref aT, .ref aF, .int cw, .int ts, .ref a1, .ref a2, .ref a3, .ref a4, .ref a5])), (aT, .inl (cI, 8, .inl z137.2.1)), (aF, .inl (cL, 8, .inr (.inl z137.2.2))), (bM, .inr (3, [.int z167.1, .int wd, .ref bT, .ref bF, .int al, .ref bN, .ref bP, .ref bQ, .ref bR, .int sz1, .int un, .int (b2i mo), .int tl, .int (b2i sp), .int tpo, .long fro, .int (b2i ly)])), (bT, .inl (kT, 8, .inl z167.2.1)), (bF, .inl (kF, 8, .inr (.inl z167.2.2)))] H := hP
          have hD : va_D A [(a1, .inr (1, [.int (b2i n1), .int p1, .long f1])), (a2, .inr (1, [.int (b2i n2), .int p2, .long f2])), (a3, .inr (1, [.int (b2i n3), .int p3, .long f3])), (a4, .inr (2, [.long hi, .long lo, .int ex])), (a5, .inr (2, [.long hi2, .long lo2, .int ex2])), (bN, .inl (kN, 2, .inl (fun k => b2i (mi k)))), (bP, .inl (kP, 2, .inl pw)), (bQ, .inl (kQ, 2, .inr (.inl pt))), (bR, .inl (kR, 33000, .inl (fun k => b2i (rb k)))), (aV, .inl (cV, 1, .inr (.inl fV))), (aO, .inr (0, [.ref aT, .ref aF, .int cw, .int ts, .ref a1, .ref a2, .ref a3, .ref a4, .ref a5])), (aT, .inl (cI, 8, .inl z137.2.1)), (aF, .inl (cL, 8, .inr (.inl z137.2.2))), (bM, .inr (3, [.int z167.1, .int wd, .ref bT, .ref bF, .int al, .ref bN, .ref bP, .ref bQ, .ref bR, .int sz1, .int un, .int (b2i mo), .int tl, .int (b2i sp), .int tpo, .long fro, .int (b2i ly)])), (bT, .inl (kT, 8, .inl z167.2.1)), (bF, .inl (kF, 8, .inr (.inl z167.2.2)))] := hD
          refine lv_aload_n hx hb d_L_law_170 rfl (lv_at hl 3 rfl) ?_
          have hPc := hP.sub (ws' := [(bM, .inr (3, [.int z167.1, .int wd, .ref bT, .ref bF, .int al, .ref bN, .ref bP, .ref bQ, .ref bR, .int sz1, .int un, .int (b2i mo), .int tl, .int (b2i sp), .int tpo, .long fro, .int (b2i ly)]))]) [13] rfl
          have hDc := hD.sub (ws' := [(bM, .inr (3, [.int z167.1, .int wd, .ref bT, .ref bF, .int al, .ref bN, .ref bP, .ref bQ, .ref bR, .int sz1, .int un, .int (b2i mo), .int tl, .int (b2i sp), .int tpo, .long fro, .int (b2i ly)]))]) [13] (by decide) rfl
          have hKc := hK.sub (tys' := []) [] rfl
          have hFc := va_free (wc := [(bM, .inr (3, [.int z167.1, .int wd, .ref bT, .ref bF, .int al, .ref bN, .ref bP, .ref bQ, .ref bR, .int sz1, .int un, .int (b2i mo), .int tl, .int (b2i sp), .int tpo, .long fro, .int (b2i ly)]))]) hD hS hA [13] rfl
          refine cc_i (va_runV (As := []) (rest := []) ⟨hx, hb, hml, hown, htA⟩ (c_M_thrown l dC dI bM bT bF bN bP bQ bR H.size z167.1 wd al sz1 un mo tl sp tpo fro ly) (cwV 0 htA (gi_V k_407 k_408 k_409 k_263 (gi_code k_240)) rfl rfl rfl (by decide +kernel) ⟨Nat.le_of_ble_eq_true rfl, Nat.le_of_ble_eq_true rfl⟩) (pre_V hnw hPc hKc hDc (ci := 3) (q0 := 0) rfl rfl) rfl rfl hl.1 rfl (lv_room (Nat.le_of_ble_eq_true rfl)) d_L_law_171 ⟨by show _ ≤ (601024 : Nat); omega, by show _ ≤ (7293033 : Nat); omega⟩) hS hFc hP hD [13] [0, 1, 2, 3, 4, 5, 6, 7, 8, 9, 10, 11, 12, 14, 15] (wr := [(a1, .inr (1, [.int (b2i n1), .int p1, .long f1])), (a2, .inr (1, [.int (b2i n2), .int p2, .long f2])), (a3, .inr (1, [.int (b2i n3), .int p3, .long f3])), (a4, .inr (2, [.long hi, .long lo, .int ex])), (a5, .inr (2, [.long hi2, .long lo2, .int ex2])), (bN, .inl (kN, 2, .inl (fun k => b2i (mi k)))), (bP, .inl (kP, 2, .inl pw)), (bQ, .inl (kQ, 2, .inr (.inl pt))), (bR, .inl (kR, 33000, .inl (fun k => b2i (rb k)))), (aV, .inl (cV, 1, .inr (.inl fV))), (aO, .inr (0, [.ref aT, .ref aF, .int cw, .int ts, .ref a1, .ref a2, .ref a3, .ref a4, .ref a5])), (aT, .inl (cI, 8, .inl z137.2.1)), (aF, .inl (cL, 8, .inr (.inl z137.2.2))), (bT, .inl (kT, 8, .inl z167.2.1)), (bF, .inl (kF, 8, .inr (.inl z167.2.2)))]) rfl rfl (by decide) (by decide) (fun H locs hP hD hS => ?_)
          have hP : va_P (dC, dI) classes [(a1, .inr (1, [.int (b2i n1), .int p1, .long f1])), (a2, .inr (1, [.int (b2i n2), .int p2, .long f2])), (a3, .inr (1, [.int (b2i n3), .int p3, .long f3])), (a4, .inr (2, [.long hi, .long lo, .int ex])), (a5, .inr (2, [.long hi2, .long lo2, .int ex2])), (bN, .inl (kN, 2, .inl (fun k => b2i (mi k)))), (bP, .inl (kP, 2, .inl pw)), (bQ, .inl (kQ, 2, .inr (.inl pt))), (bR, .inl (kR, 33000, .inl (fun k => b2i (rb k)))), (aV, .inl (cV, 1, .inr (.inl fV))), (aO, .inr (0, [.ref aT, .ref aF, .int cw, .int ts, .ref a1, .ref a2, .ref a3, .ref a4, .ref a5])), (aT, .inl (cI, 8, .inl z137.2.1)), (aF, .inl (cL, 8, .inr (.inl z137.2.2))), (bT, .inl (kT, 8, .inl z167.2.1)), (bF, .inl (kF, 8, .inr (.inl z167.2.2))), (bM, .inr (3, [.int z167.1, .int wd, .ref bT, .ref bF, .int al, .ref bN, .ref bP, .ref bQ, .ref bR, .int sz1, .int un, .int (b2i mo), .int tl, .int (b2i sp), .int tpo, .long fro, .int (b2i ly)]))] H := hP
          have hD : va_D A [(a1, .inr (1, [.int (b2i n1), .int p1, .long f1])), (a2, .inr (1, [.int (b2i n2), .int p2, .long f2])), (a3, .inr (1, [.int (b2i n3), .int p3, .long f3])), (a4, .inr (2, [.long hi, .long lo, .int ex])), (a5, .inr (2, [.long hi2, .long lo2, .int ex2])), (bN, .inl (kN, 2, .inl (fun k => b2i (mi k)))), (bP, .inl (kP, 2, .inl pw)), (bQ, .inl (kQ, 2, .inr (.inl pt))), (bR, .inl (kR, 33000, .inl (fun k => b2i (rb k)))), (aV, .inl (cV, 1, .inr (.inl fV))), (aO, .inr (0, [.ref aT, .ref aF, .int cw, .int ts, .ref a1, .ref a2, .ref a3, .ref a4, .ref a5])), (aT, .inl (cI, 8, .inl z137.2.1)), (aF, .inl (cL, 8, .inr (.inl z137.2.2))), (bT, .inl (kT, 8, .inl z167.2.1)), (bF, .inl (kF, 8, .inr (.inl z167.2.2))), (bM, .inr (3, [.int z167.1, .int wd, .ref bT, .ref bF, .int al, .ref bN, .ref bP, .ref bQ, .ref bR, .int sz1, .int un, .int (b2i mo), .int tl, .int (b2i sp), .int tpo, .long fro, .int (b2i ly)]))] := hD
          refine lv_iload hx hb d_L_law_174 (lv_at hl 0 rfl) ?_
          refine lv_icmp_eq (tgt := 181) hx hb d_L_law_176 (by decide) (fun c_176 => ?_) (fun c_176 => ?_)
          · skip
            refine lv_goto (tgt := 368) hx hb d_L_law_181 (by decide) ?_
            refine lv_iinc (v := (x4 + 5)) (lv' := [(4, .int (x4 + 5)), (5, .int z137.1), (0, .ref b), (1, .ref aO), (2, .ref bM), (3, .ref aV)]) hx hb d_L_law_368 hl (k := 5) rfl rfl (by decide) rfl (fun ls hl => ?_)
            refine lv_goto (tgt := 23) hx hb d_L_law_371 (by decide) ?_
            refine W.widen (k := 16 + (i + 5)) (n := 33080 + 6 * (i + 5)) (by omega) (by omega) ?_
            exact ih (i + 5) hlt (by omega) (x4 + 5) (by rw [ex4]; exact nI_add5 i) cw ts z137.2.1 z137.2.2 n1 p1 f1 n2 p2 f2 n3 p3 f3 hi lo ex hi2 lo2 ex2 z167.1 wd al sz1 un mo tl sp tpo fro ly z167.2.1 z167.2.2 mi pw pt rb fV (by clear hP hD hl hS; subst ez167; subst ez137; exact (lp_set hI (xs (x4 + 1).toNatClampNeg) (xs (x4 + 2).toNatClampNeg) (xs (x4 + 3).toNatClampNeg) (xs (x4 + 4).toNatClampNeg)).2) cI cL kT kF kN kP kQ kR cV aO aT aF a1 a2 a3 a4 a5 bM bT bF bN bP bQ bR aV H locs hK (hP.sub [10, 11, 12, 0, 1, 2, 3, 4, 15, 13, 14, 5, 6, 7, 8, 9] rfl) (hD.sub [10, 11, 12, 0, 1, 2, 3, 4, 15, 13, 14, 5, 6, 7, 8, 9] (by decide) rfl) hS ls (lv_sub hl [2, 3, 4, 5, 0] rfl)
          · skip
            exact absurd (by clear hP hD hl hS; subst ez167; subst ez137; exact (lp_set hI (xs (x4 + 1).toNatClampNeg) (xs (x4 + 2).toNatClampNeg) (xs (x4 + 3).toNatClampNeg) (xs (x4 + 4).toNatClampNeg)).1.symm) c_176
        · skip
          by_cases c_39_2 : ((xs x4.toNatClampNeg) &&& 7) = 2
          · skip
            refine lv_tableIn (off := 145) (tgt := 184) hx hb d_L_law_39 (by rw [c_39_2]; decide) (by rw [c_39_2]; decide) (by rw [c_39_2]; rfl) (by decide) ?_
            refine lv_aload_n hx hb d_L_law_184 rfl (lv_at hl 1 rfl) ?_
            refine lv_aload_n hx hb d_L_law_185 rfl (lv_at hl 0 rfl) ?_
            refine lv_iload hx hb d_L_law_186 (lv_at hl 4 rfl) ?_
            refine lv_iconst (v := 1) hx hb d_L_law_188 (by decide) ?_
            refine lv_iadd hx hb d_L_law_189 ?_
            refine va_sld hx hb hX hbl hbA hS hI1 d_L_law_190 ?_
            refine lv_aload_n hx hb d_L_law_191 rfl (lv_at hl 0 rfl) ?_
            refine lv_iload hx hb d_L_law_192 (lv_at hl 4 rfl) ?_
            refine lv_iconst (v := 2) hx hb d_L_law_194 (by decide) ?_
            refine lv_iadd hx hb d_L_law_195 ?_
            refine va_sld hx hb hX hbl hbA hS hI2 d_L_law_196 ?_
            refine lv_aload_n hx hb d_L_law_197 rfl (lv_at hl 3 rfl) ?_
            have hPc := hP.sub (ws' := [(aO, .inr (0, [.ref aT, .ref aF, .int cw, .int ts, .ref a1, .ref a2, .ref a3, .ref a4, .ref a5])), (aT, .inl (cI, 8, .inl fT)), (aF, .inl (cL, 8, .inr (.inl fF))), (aV, .inl (cV, 1, .inr (.inl fV)))]) [0, 1, 2, 15] rfl
            have hDc := hD.sub (ws' := [(aO, .inr (0, [.ref aT, .ref aF, .int cw, .int ts, .ref a1, .ref a2, .ref a3, .ref a4, .ref a5])), (aT, .inl (cI, 8, .inl fT)), (aF, .inl (cL, 8, .inr (.inl fF))), (aV, .inl (cV, 1, .inr (.inl fV)))]) [0, 1, 2, 15] (by decide) rfl
            have hKc := hK.sub (tys' := [(cI, .int), (cL, .long), (cV, .long)]) [0, 1, 2] rfl
            have hFc := va_free (wc := [(aO, .inr (0, [.ref aT, .ref aF, .int cw, .int ts, .ref a1, .ref a2, .ref a3, .ref a4, .ref a5])), (aT, .inl (cI, 8, .inl fT)), (aF, .inl (cL, 8, .inr (.inl fF))), (aV, .inl (cV, 1, .inr (.inl fV)))]) hD hS hA [0, 1, 2, 15] rfl
            refine cc_i (vx_runSW (As := [.ref aO, .int (xs (x4 + 1).toNatClampNeg), .int (xs (x4 + 2).toNatClampNeg), .ref aV]) (rest := []) ⟨hx, hb, hml, hown, htA⟩ (c_L_part l hl9 dC dI cI cL cV aO aT aF aV a1 a2 a3 a4 a5 H.size cw ts fT fF fV (xs (x4 + 1).toNatClampNeg) (xs (x4 + 2).toNatClampNeg)) (vx_cwSW 4 htA (gi_S k_415 k_416 k_401 (gi_codeW k_396)) rfl rfl rfl (by decide +kernel) ⟨Nat.le_of_ble_eq_true rfl, Nat.le_of_ble_eq_true rfl⟩) (pre_L hnw hsw hZU hZN hnc hS hFc hPc hKc hDc) rfl rfl hl.1 rfl (lv_room (Nat.le_of_ble_eq_true rfl)) d_L_law_198 ⟨by show _ ≤ (601024 : Nat); omega, by show _ ≤ (7293033 : Nat); omega⟩) hS hFc hP hD [0, 1, 2, 15] [3, 4, 5, 6, 7, 8, 9, 10, 11, 12, 13, 14] (wr := [(a1, .inr (1, [.int (b2i n1), .int p1, .long f1])), (a2, .inr (1, [.int (b2i n2), .int p2, .long f2])), (a3, .inr (1, [.int (b2i n3), .int p3, .long f3])), (a4, .inr (2, [.long hi, .long lo, .int ex])), (a5, .inr (2, [.long hi2, .long lo2, .int ex2])), (bM, .inr (3, [.int cd, .int wd, .ref bT, .ref bF, .int al, .ref bN, .ref bP, .ref bQ, .ref bR, .int sz1, .int un, .int (b2i mo), .int tl, .int (b2i sp), .int tpo, .long fro, .int (b2i ly)])), (bT, .inl (kT, 8, .inl mT)), (bF, .inl (kF, 8, .inr (.inl mF))), (bN, .inl (kN, 2, .inl (fun k => b2i (mi k)))), (bP, .inl (kP, 2, .inl pw)), (bQ, .inl (kQ, 2, .inr (.inl pt))), (bR, .inl (kR, 33000, .inl (fun k => b2i (rb k))))]) rfl rfl (by decide) (by decide) (fun H locs hP hD hS => ?_)
            obtain ⟨z198, ez198⟩ : ∃ z, g_L_part fT fF fV (xs (x4 + 1).toNatClampNeg) (xs (x4 + 2).toNatClampNeg) = z := ⟨_, rfl⟩
            rw [ez198] at hP hD ⊢
            have hP : va_P (dC, dI) classes [(a1, .inr (1, [.int (b2i n1), .int p1, .long f1])), (a2, .inr (1, [.int (b2i n2), .int p2, .long f2])), (a3, .inr (1, [.int (b2i n3), .int p3, .long f3])), (a4, .inr (2, [.long hi, .long lo, .int ex])), (a5, .inr (2, [.long hi2, .long lo2, .int ex2])), (bM, .inr (3, [.int cd, .int wd, .ref bT, .ref bF, .int al, .ref bN, .ref bP, .ref bQ, .ref bR, .int sz1, .int un, .int (b2i mo), .int tl, .int (b2i sp), .int tpo, .long fro, .int (b2i ly)])), (bT, .inl (kT, 8, .inl mT)), (bF, .inl (kF, 8, .inr (.inl mF))), (bN, .inl (kN, 2, .inl (fun k => b2i (mi k)))), (bP, .inl (kP, 2, .inl pw)), (bQ, .inl (kQ, 2, .inr (.inl pt))), (bR, .inl (kR, 33000, .inl (fun k => b2i (rb k)))), (aO, .inr (0, [.ref aT, .ref aF, .int cw, .int ts, .ref a1, .ref a2, .ref a3, .ref a4, .ref a5])), (aT, .inl (cI, 8, .inl fT)), (aF, .inl (cL, 8, .inr (.inl fF))), (aV, .inl (cV, 1, .inr (.inl z198.2)))] H := hP
            have hD : va_D A [(a1, .inr (1, [.int (b2i n1), .int p1, .long f1])), (a2, .inr (1, [.int (b2i n2), .int p2, .long f2])), (a3, .inr (1, [.int (b2i n3), .int p3, .long f3])), (a4, .inr (2, [.long hi, .long lo, .int ex])), (a5, .inr (2, [.long hi2, .long lo2, .int ex2])), (bM, .inr (3, [.int cd, .int wd, .ref bT, .ref bF, .int al, .ref bN, .ref bP, .ref bQ, .ref bR, .int sz1, .int un, .int (b2i mo), .int tl, .int (b2i sp), .int tpo, .long fro, .int (b2i ly)])), (bT, .inl (kT, 8, .inl mT)), (bF, .inl (kF, 8, .inr (.inl mF))), (bN, .inl (kN, 2, .inl (fun k => b2i (mi k)))), (bP, .inl (kP, 2, .inl pw)), (bQ, .inl (kQ, 2, .inr (.inl pt))), (bR, .inl (kR, 33000, .inl (fun k => b2i (rb k)))), (aO, .inr (0, [.ref aT, .ref aF, .int cw, .int ts, .ref a1, .ref a2, .ref a3, .ref a4, .ref a5])), (aT, .inl (cI, 8, .inl fT)), (aF, .inl (cL, 8, .inr (.inl fF))), (aV, .inl (cV, 1, .inr (.inl z198.2)))] := hD
            refine lv_istore (lv' := [(5, .int z198.1), (0, .ref b), (1, .ref aO), (2, .ref bM), (3, .ref aV), (4, .int x4)]) hx hb d_L_law_201 hl (by decide) rfl (fun ls hl => ?_)
            refine lv_aload_n hx hb d_L_law_203 rfl (lv_at hl 3 rfl) ?_
            refine lv_aload_n hx hb d_L_law_204 rfl (lv_at hl 1 rfl) ?_
            refine lv_iload hx hb d_L_law_205 (lv_at hl 5 rfl) ?_
            refine lv_iconst (v := 1) hx hb d_L_law_207 (by decide) ?_
            refine lv_iadd hx hb d_L_law_208 ?_
            refine va_sld hx hb hX hbl hbA hS hI1 d_L_law_209 ?_
            refine lv_aload_n hx hb d_L_law_210 rfl (lv_at hl 1 rfl) ?_
            refine lv_iload hx hb d_L_law_211 (lv_at hl 5 rfl) ?_
            refine lv_iconst (v := 2) hx hb d_L_law_213 (by decide) ?_
            refine lv_iadd hx hb d_L_law_214 ?_
            refine va_sld hx hb hX hbl hbA hS hI2 d_L_law_215 ?_
            have hPc := hP.sub (ws' := [(bM, .inr (3, [.int cd, .int wd, .ref bT, .ref bF, .int al, .ref bN, .ref bP, .ref bQ, .ref bR, .int sz1, .int un, .int (b2i mo), .int tl, .int (b2i sp), .int tpo, .long fro, .int (b2i ly)])), (bT, .inl (kT, 8, .inl mT)), (bF, .inl (kF, 8, .inr (.inl mF)))]) [5, 6, 7] rfl
            have hDc := hD.sub (ws' := [(bM, .inr (3, [.int cd, .int wd, .ref bT, .ref bF, .int al, .ref bN, .ref bP, .ref bQ, .ref bR, .int sz1, .int un, .int (b2i mo), .int tl, .int (b2i sp), .int tpo, .long fro, .int (b2i ly)])), (bT, .inl (kT, 8, .inl mT)), (bF, .inl (kF, 8, .inr (.inl mF)))]) [5, 6, 7] (by decide) rfl
            have hKc := hK.sub (tys' := [(kT, .int), (kF, .long)]) [3, 4] rfl
            have hFc := va_free (wc := [(bM, .inr (3, [.int cd, .int wd, .ref bT, .ref bF, .int al, .ref bN, .ref bP, .ref bQ, .ref bR, .int sz1, .int un, .int (b2i mo), .int tl, .int (b2i sp), .int tpo, .long fro, .int (b2i ly)])), (bT, .inl (kT, 8, .inl mT)), (bF, .inl (kF, 8, .inr (.inl mF)))]) hD hS hA [5, 6, 7] rfl
            refine cc_i (va_runV (As := [.int (xs (x4 + 1).toNatClampNeg), .int (xs (x4 + 2).toNatClampNeg)]) (rest := []) ⟨hx, hb, hml, hown, htA⟩ (c_M_part l dC dI kT kF bM bT bF bN bP bQ bR H.size cd wd al sz1 un mo tl sp tpo fro ly mT mF (xs (x4 + 1).toNatClampNeg) (xs (x4 + 2).toNatClampNeg)) (cwV 2 htA (gi_V k_417 k_418 k_419 k_263 (gi_code k_270)) rfl rfl rfl (by decide +kernel) ⟨Nat.le_of_ble_eq_true rfl, Nat.le_of_ble_eq_true rfl⟩) (pre_V hnw hPc hKc hDc (ci := 3) (q0 := 0) rfl rfl) rfl rfl hl.1 rfl (lv_room (Nat.le_of_ble_eq_true rfl)) d_L_law_216 ⟨by show _ ≤ (601024 : Nat); omega, by show _ ≤ (7293033 : Nat); omega⟩) hS hFc hP hD [5, 6, 7] [0, 1, 2, 3, 4, 8, 9, 10, 11, 12, 13, 14, 15] (wr := [(a1, .inr (1, [.int (b2i n1), .int p1, .long f1])), (a2, .inr (1, [.int (b2i n2), .int p2, .long f2])), (a3, .inr (1, [.int (b2i n3), .int p3, .long f3])), (a4, .inr (2, [.long hi, .long lo, .int ex])), (a5, .inr (2, [.long hi2, .long lo2, .int ex2])), (bN, .inl (kN, 2, .inl (fun k => b2i (mi k)))), (bP, .inl (kP, 2, .inl pw)), (bQ, .inl (kQ, 2, .inr (.inl pt))), (bR, .inl (kR, 33000, .inl (fun k => b2i (rb k)))), (aO, .inr (0, [.ref aT, .ref aF, .int cw, .int ts, .ref a1, .ref a2, .ref a3, .ref a4, .ref a5])), (aT, .inl (cI, 8, .inl fT)), (aF, .inl (cL, 8, .inr (.inl fF))), (aV, .inl (cV, 1, .inr (.inl z198.2)))]) rfl rfl (by decide) (by decide) (fun H locs hP hD hS => ?_)
            obtain ⟨z216, ez216⟩ : ∃ z, g_M_part mT mF (xs (x4 + 1).toNatClampNeg) (xs (x4 + 2).toNatClampNeg) = z := ⟨_, rfl⟩
            rw [ez216] at hP hD ⊢
            have hP : va_P (dC, dI) classes [(a1, .inr (1, [.int (b2i n1), .int p1, .long f1])), (a2, .inr (1, [.int (b2i n2), .int p2, .long f2])), (a3, .inr (1, [.int (b2i n3), .int p3, .long f3])), (a4, .inr (2, [.long hi, .long lo, .int ex])), (a5, .inr (2, [.long hi2, .long lo2, .int ex2])), (bN, .inl (kN, 2, .inl (fun k => b2i (mi k)))), (bP, .inl (kP, 2, .inl pw)), (bQ, .inl (kQ, 2, .inr (.inl pt))), (bR, .inl (kR, 33000, .inl (fun k => b2i (rb k)))), (aO, .inr (0, [.ref aT, .ref aF, .int cw, .int ts, .ref a1, .ref a2, .ref a3, .ref a4, .ref a5])), (aT, .inl (cI, 8, .inl fT)), (aF, .inl (cL, 8, .inr (.inl fF))), (aV, .inl (cV, 1, .inr (.inl z198.2))), (bM, .inr (3, [.int z216.2, .int wd, .ref bT, .ref bF, .int al, .ref bN, .ref bP, .ref bQ, .ref bR, .int sz1, .int un, .int (b2i mo), .int tl, .int (b2i sp), .int tpo, .long fro, .int (b2i ly)])), (bT, .inl (kT, 8, .inl mT)), (bF, .inl (kF, 8, .inr (.inl mF)))] H := hP
            have hD : va_D A [(a1, .inr (1, [.int (b2i n1), .int p1, .long f1])), (a2, .inr (1, [.int (b2i n2), .int p2, .long f2])), (a3, .inr (1, [.int (b2i n3), .int p3, .long f3])), (a4, .inr (2, [.long hi, .long lo, .int ex])), (a5, .inr (2, [.long hi2, .long lo2, .int ex2])), (bN, .inl (kN, 2, .inl (fun k => b2i (mi k)))), (bP, .inl (kP, 2, .inl pw)), (bQ, .inl (kQ, 2, .inr (.inl pt))), (bR, .inl (kR, 33000, .inl (fun k => b2i (rb k)))), (aO, .inr (0, [.ref aT, .ref aF, .int cw, .int ts, .ref a1, .ref a2, .ref a3, .ref a4, .ref a5])), (aT, .inl (cI, 8, .inl fT)), (aF, .inl (cL, 8, .inr (.inl fF))), (aV, .inl (cV, 1, .inr (.inl z198.2))), (bM, .inr (3, [.int z216.2, .int wd, .ref bT, .ref bF, .int al, .ref bN, .ref bP, .ref bQ, .ref bR, .int sz1, .int un, .int (b2i mo), .int tl, .int (b2i sp), .int tpo, .long fro, .int (b2i ly)])), (bT, .inl (kT, 8, .inl mT)), (bF, .inl (kF, 8, .inr (.inl mF)))] := hD
            refine lv_istore (lv' := [(6, .int z216.1), (5, .int z198.1), (0, .ref b), (1, .ref aO), (2, .ref bM), (3, .ref aV), (4, .int x4)]) hx hb d_L_law_219 hl (by decide) rfl (fun ls hl => ?_)
            refine lv_aload_n hx hb d_L_law_221 rfl (lv_at hl 4 rfl) ?_
            have hPc := hP.sub (ws' := [(bM, .inr (3, [.int z216.2, .int wd, .ref bT, .ref bF, .int al, .ref bN, .ref bP, .ref bQ, .ref bR, .int sz1, .int un, .int (b2i mo), .int tl, .int (b2i sp), .int tpo, .long fro, .int (b2i ly)]))]) [13] rfl
            have hDc := hD.sub (ws' := [(bM, .inr (3, [.int z216.2, .int wd, .ref bT, .ref bF, .int al, .ref bN, .ref bP, .ref bQ, .ref bR, .int sz1, .int un, .int (b2i mo), .int tl, .int (b2i sp), .int tpo, .long fro, .int (b2i ly)]))]) [13] (by decide) rfl
            have hKc := hK.sub (tys' := []) [] rfl
            have hFc := va_free (wc := [(bM, .inr (3, [.int z216.2, .int wd, .ref bT, .ref bF, .int al, .ref bN, .ref bP, .ref bQ, .ref bR, .int sz1, .int un, .int (b2i mo), .int tl, .int (b2i sp), .int tpo, .long fro, .int (b2i ly)]))]) hD hS hA [13] rfl
            refine cc_i (va_runV (As := []) (rest := []) ⟨hx, hb, hml, hown, htA⟩ (c_M_thrown l dC dI bM bT bF bN bP bQ bR H.size z216.2 wd al sz1 un mo tl sp tpo fro ly) (cwV 0 htA (gi_V k_407 k_408 k_409 k_263 (gi_code k_240)) rfl rfl rfl (by decide +kernel) ⟨Nat.le_of_ble_eq_true rfl, Nat.le_of_ble_eq_true rfl⟩) (pre_V hnw hPc hKc hDc (ci := 3) (q0 := 0) rfl rfl) rfl rfl hl.1 rfl (lv_room (Nat.le_of_ble_eq_true rfl)) d_L_law_222 ⟨by show _ ≤ (601024 : Nat); omega, by show _ ≤ (7293033 : Nat); omega⟩) hS hFc hP hD [13] [0, 1, 2, 3, 4, 5, 6, 7, 8, 9, 10, 11, 12, 14, 15] (wr := [(a1, .inr (1, [.int (b2i n1), .int p1, .long f1])), (a2, .inr (1, [.int (b2i n2), .int p2, .long f2])), (a3, .inr (1, [.int (b2i n3), .int p3, .long f3])), (a4, .inr (2, [.long hi, .long lo, .int ex])), (a5, .inr (2, [.long hi2, .long lo2, .int ex2])), (bN, .inl (kN, 2, .inl (fun k => b2i (mi k)))), (bP, .inl (kP, 2, .inl pw)), (bQ, .inl (kQ, 2, .inr (.inl pt))), (bR, .inl (kR, 33000, .inl (fun k => b2i (rb k)))), (aO, .inr (0, [.ref aT, .ref aF, .int cw, .int ts, .ref a1, .ref a2, .ref a3, .ref a4, .ref a5])), (aT, .inl (cI, 8, .inl fT)), (aF, .inl (cL, 8, .inr (.inl fF))), (aV, .inl (cV, 1, .inr (.inl z198.2))), (bT, .inl (kT, 8, .inl mT)), (bF, .inl (kF, 8, .inr (.inl mF)))]) rfl rfl (by decide) (by decide) (fun H locs hP hD hS => ?_)
            have hP : va_P (dC, dI) classes [(a1, .inr (1, [.int (b2i n1), .int p1, .long f1])), (a2, .inr (1, [.int (b2i n2), .int p2, .long f2])), (a3, .inr (1, [.int (b2i n3), .int p3, .long f3])), (a4, .inr (2, [.long hi, .long lo, .int ex])), (a5, .inr (2, [.long hi2, .long lo2, .int ex2])), (bN, .inl (kN, 2, .inl (fun k => b2i (mi k)))), (bP, .inl (kP, 2, .inl pw)), (bQ, .inl (kQ, 2, .inr (.inl pt))), (bR, .inl (kR, 33000, .inl (fun k => b2i (rb k)))), (aO, .inr (0, [.ref aT, .ref aF, .int cw, .int ts, .ref a1, .ref a2, .ref a3, .ref a4, .ref a5])), (aT, .inl (cI, 8, .inl fT)), (aF, .inl (cL, 8, .inr (.inl fF))), (aV, .inl (cV, 1, .inr (.inl z198.2))), (bT, .inl (kT, 8, .inl mT)), (bF, .inl (kF, 8, .inr (.inl mF))), (bM, .inr (3, [.int z216.2, .int wd, .ref bT, .ref bF, .int al, .ref bN, .ref bP, .ref bQ, .ref bR, .int sz1, .int un, .int (b2i mo), .int tl, .int (b2i sp), .int tpo, .long fro, .int (b2i ly)]))] H := hP
            have hD : va_D A [(a1, .inr (1, [.int (b2i n1), .int p1, .long f1])), (a2, .inr (1, [.int (b2i n2), .int p2, .long f2])), (a3, .inr (1, [.int (b2i n3), .int p3, .long f3])), (a4, .inr (2, [.long hi, .long lo, .int ex])), (a5, .inr (2, [.long hi2, .long lo2, .int ex2])), (bN, .inl (kN, 2, .inl (fun k => b2i (mi k)))), (bP, .inl (kP, 2, .inl pw)), (bQ, .inl (kQ, 2, .inr (.inl pt))), (bR, .inl (kR, 33000, .inl (fun k => b2i (rb k)))), (aO, .inr (0, [.ref aT, .ref aF, .int cw, .int ts, .ref a1, .ref a2, .ref a3, .ref a4, .ref a5])), (aT, .inl (cI, 8, .inl fT)), (aF, .inl (cL, 8, .inr (.inl fF))), (aV, .inl (cV, 1, .inr (.inl z198.2))), (bT, .inl (kT, 8, .inl mT)), (bF, .inl (kF, 8, .inr (.inl mF))), (bM, .inr (3, [.int z216.2, .int wd, .ref bT, .ref bF, .int al, .ref bN, .ref bP, .ref bQ, .ref bR, .int sz1, .int un, .int (b2i mo), .int tl, .int (b2i sp), .int tpo, .long fro, .int (b2i ly)]))] := hD
            refine lv_iload hx hb d_L_law_225 (lv_at hl 1 rfl) ?_
            refine lv_icmp_eq (tgt := 232) hx hb d_L_law_227 (by decide) (fun c_227 => ?_) (fun c_227 => ?_)
            · skip
              refine lv_iload hx hb d_L_law_232 (lv_at hl 1 rfl) ?_
              refine lv_if_ne (tgt := 249) hx hb d_L_law_234 (by decide) (fun c_234 => ?_) (fun c_234 => ?_)
              · skip
                refine lv_goto (tgt := 368) hx hb d_L_law_249 (by decide) ?_
                refine lv_iinc (v := (x4 + 5)) (lv' := [(4, .int (x4 + 5)), (6, .int z216.1), (5, .int z198.1), (0, .ref b), (1, .ref aO), (2, .ref bM), (3, .ref aV)]) hx hb d_L_law_368 hl (k := 6) rfl rfl (by decide) rfl (fun ls hl => ?_)
                refine lv_goto (tgt := 23) hx hb d_L_law_371 (by decide) ?_
                refine W.widen (k := 16 + (i + 5)) (n := 33080 + 6 * (i + 5)) (by omega) (by omega) ?_
                exact ih (i + 5) hlt (by omega) (x4 + 5) (by rw [ex4]; exact nI_add5 i) cw ts fT fF n1 p1 f1 n2 p2 f2 n3 p3 f3 hi lo ex hi2 lo2 ex2 z216.2 wd al sz1 un mo tl sp tpo fro ly mT mF mi pw pt rb z198.2 (by clear hP hD hl hS; subst ez216; subst ez198; exact hI) cI cL kT kF kN kP kQ kR cV aO aT aF a1 a2 a3 a4 a5 bM bT bF bN bP bQ bR aV H locs hK (hP.sub [9, 10, 11, 0, 1, 2, 3, 4, 15, 13, 14, 5, 6, 7, 8, 12] rfl) (hD.sub [9, 10, 11, 0, 1, 2, 3, 4, 15, 13, 14, 5, 6, 7, 8, 12] (by decide) rfl) hS ls (lv_sub hl [3, 4, 5, 6, 0] rfl)
              · skip
                refine lv_aload_n hx hb d_L_law_237 rfl (lv_at hl 5 rfl) ?_
                refine lv_iconst (v := 0) hx hb d_L_law_238 (by decide) ?_
                refine va_lald hx hb hK hP 12 2 rfl rfl in1_0 d_L_law_239 ?_
                refine lv_iload hx hb d_L_law_240 (lv_at hl 0 rfl) ?_
                refine lv_i2l (v := z216.1.toInt64) hx hb d_L_law_242 rfl ?_
                refine W.lcmp hx hb d_L_law_243 ?_
                refine lv_if_eq (tgt := 249) hx hb d_L_law_244 (by decide) (fun c_244 => ?_) (fun c_244 => ?_)
                · skip
                  have c_244 : (z198.2 (0 : Int32).toNatClampNeg) = (z216.1.toInt64) := (lg_cmp_eq _ _).mp c_244
                  refine lv_goto (tgt := 368) hx hb d_L_law_249 (by decide) ?_
                  refine lv_iinc (v := (x4 + 5)) (lv' := [(4, .int (x4 + 5)), (6, .int z216.1), (5, .int z198.1), (0, .ref b), (1, .ref aO), (2, .ref bM), (3, .ref aV)]) hx hb d_L_law_368 hl (k := 6) rfl rfl (by decide) rfl (fun ls hl => ?_)
                  refine lv_goto (tgt := 23) hx hb d_L_law_371 (by decide) ?_
                  refine W.widen (k := 16 + (i + 5)) (n := 33080 + 6 * (i + 5)) (by omega) (by omega) ?_
                  exact ih (i + 5) hlt (by omega) (x4 + 5) (by rw [ex4]; exact nI_add5 i) cw ts fT fF n1 p1 f1 n2 p2 f2 n3 p3 f3 hi lo ex hi2 lo2 ex2 z216.2 wd al sz1 un mo tl sp tpo fro ly mT mF mi pw pt rb z198.2 (by clear hP hD hl hS; subst ez216; subst ez198; exact hI) cI cL kT kF kN kP kQ kR cV aO aT aF a1 a2 a3 a4 a5 bM bT bF bN bP bQ bR aV H locs hK (hP.sub [9, 10, 11, 0, 1, 2, 3, 4, 15, 13, 14, 5, 6, 7, 8, 12] rfl) (hD.sub [9, 10, 11, 0, 1, 2, 3, 4, 15, 13, 14, 5, 6, 7, 8, 12] (by decide) rfl) hS ls (lv_sub hl [3, 4, 5, 6, 0] rfl)
                · skip
                  have c_244 : ¬ (z198.2 (0 : Int32).toNatClampNeg) = (z216.1.toInt64) := fun h9 => c_244 ((lg_cmp_eq _ _).mpr h9)
                  exact absurd (by clear hP hD hl hS; subst ez216; subst ez198; exact (lp_part hI fV (xs (x4 + 1).toNatClampNeg) (xs (x4 + 2).toNatClampNeg)).2 c_234) c_244
            · skip
              exact absurd (by clear hP hD hl hS; subst ez216; subst ez198; exact (lp_part hI fV (xs (x4 + 1).toNatClampNeg) (xs (x4 + 2).toNatClampNeg)).1.symm) c_227
          · skip
            by_cases c_39_3 : ((xs x4.toNatClampNeg) &&& 7) = 3
            · skip
              refine lv_tableIn (off := 213) (tgt := 252) hx hb d_L_law_39 (by rw [c_39_3]; decide) (by rw [c_39_3]; decide) (by rw [c_39_3]; rfl) (by decide) ?_
              refine lv_aload_n hx hb d_L_law_252 rfl (lv_at hl 1 rfl) ?_
              refine lv_aload_n hx hb d_L_law_253 rfl (lv_at hl 0 rfl) ?_
              refine lv_iload hx hb d_L_law_254 (lv_at hl 4 rfl) ?_
              refine lv_iconst (v := 1) hx hb d_L_law_256 (by decide) ?_
              refine lv_iadd hx hb d_L_law_257 ?_
              refine va_sld hx hb hX hbl hbA hS hI1 d_L_law_258 ?_
              refine lv_aload_n hx hb d_L_law_259 rfl (lv_at hl 0 rfl) ?_
              refine lv_iload hx hb d_L_law_260 (lv_at hl 4 rfl) ?_
              refine lv_iconst (v := 2) hx hb d_L_law_262 (by decide) ?_
              refine lv_iadd hx hb d_L_law_263 ?_
              refine va_sld hx hb hX hbl hbA hS hI2 d_L_law_264 ?_
              refine lv_aload_n hx hb d_L_law_265 rfl (lv_at hl 0 rfl) ?_
              refine lv_iload hx hb d_L_law_266 (lv_at hl 4 rfl) ?_
              refine lv_iconst (v := 3) hx hb d_L_law_268 (by decide) ?_
              refine lv_iadd hx hb d_L_law_269 ?_
              refine va_sld hx hb hX hbl hbA hS hI3 d_L_law_270 ?_
              refine lv_aload_n hx hb d_L_law_271 rfl (lv_at hl 0 rfl) ?_
              refine lv_iload hx hb d_L_law_272 (lv_at hl 4 rfl) ?_
              refine lv_iconst (v := 4) hx hb d_L_law_274 (by decide) ?_
              refine lv_iadd hx hb d_L_law_275 ?_
              refine va_sld hx hb hX hbl hbA hS hI4 d_L_law_276 ?_
              refine lv_aload_n hx hb d_L_law_277 rfl (lv_at hl 3 rfl) ?_
              have hPc := hP.sub (ws' := [(aO, .inr (0, [.ref aT, .ref aF, .int cw, .int ts, .ref a1, .ref a2, .ref a3, .ref a4, .ref a5])), (aT, .inl (cI, 8, .inl fT)), (aF, .inl (cL, 8, .inr (.inl fF))), (a1, .inr (1, [.int (b2i n1), .int p1, .long f1])), (a2, .inr (1, [.int (b2i n2), .int p2, .long f2])), (a3, .inr (1, [.int (b2i n3), .int p3, .long f3])), (a4, .inr (2, [.long hi, .long lo, .int ex])), (a5, .inr (2, [.long hi2, .long lo2, .int ex2])), (aV, .inl (cV, 1, .inr (.inl fV)))]) [0, 1, 2, 3, 4, 5, 6, 7, 15] rfl
              have hDc := hD.sub (ws' := [(aO, .inr (0, [.ref aT, .ref aF, .int cw, .int ts, .ref a1, .ref a2, .ref a3, .ref a4, .ref a5])), (aT, .inl (cI, 8, .inl fT)), (aF, .inl (cL, 8, .inr (.inl fF))), (a1, .inr (1, [.int (b2i n1), .int p1, .long f1])), (a2, .inr (1, [.int (b2i n2), .int p2, .long f2])), (a3, .inr (1, [.int (b2i n3), .int p3, .long f3])), (a4, .inr (2, [.long hi, .long lo, .int ex])), (a5, .inr (2, [.long hi2, .long lo2, .int ex2])), (aV, .inl (cV, 1, .inr (.inl fV)))]) [0, 1, 2, 3, 4, 5, 6, 7, 15] (by decide) rfl
              have hKc := hK.sub (tys' := [(cI, .int), (cL, .long), (cV, .long)]) [0, 1, 2] rfl
              have hFc := va_free (wc := [(aO, .inr (0, [.ref aT, .ref aF, .int cw, .int ts, .ref a1, .ref a2, .ref a3, .ref a4, .ref a5])), (aT, .inl (cI, 8, .inl fT)), (aF, .inl (cL, 8, .inr (.inl fF))), (a1, .inr (1, [.int (b2i n1), .int p1, .long f1])), (a2, .inr (1, [.int (b2i n2), .int p2, .long f2])), (a3, .inr (1, [.int (b2i n3), .int p3, .long f3])), (a4, .inr (2, [.long hi, .long lo, .int ex])), (a5, .inr (2, [.long hi2, .long lo2, .int ex2])), (aV, .inl (cV, 1, .inr (.inl fV)))]) hD hS hA [0, 1, 2, 3, 4, 5, 6, 7, 15] rfl
              refine cc_i (vx_runSW (As := [.ref aO, .int (xs (x4 + 1).toNatClampNeg), .int (xs (x4 + 2).toNatClampNeg), .int (xs (x4 + 3).toNatClampNeg), .int (xs (x4 + 4).toNatClampNeg), .ref aV]) (rest := []) ⟨hx, hb, hml, hown, htA⟩ (c_L_operate l hl9 dC dI cI cL cV aO aT aF a1 a2 a3 a4 a5 aV H.size cw ts fT fF n1 p1 f1 n2 p2 f2 n3 p3 f3 hi lo ex hi2 lo2 ex2 fV (xs (x4 + 1).toNatClampNeg) (xs (x4 + 2).toNatClampNeg) (xs (x4 + 3).toNatClampNeg) (xs (x4 + 4).toNatClampNeg)) (vx_cwSW 6 htA (gi_S k_420 k_421 k_401 (gi_codeW k_400)) rfl rfl rfl (by decide +kernel) ⟨Nat.le_of_ble_eq_true rfl, Nat.le_of_ble_eq_true rfl⟩) (pre_L hnw hsw hZU hZN hnc hS hFc hPc hKc hDc) rfl rfl hl.1 rfl (lv_room (Nat.le_of_ble_eq_true rfl)) d_L_law_278 ⟨by show _ ≤ (601024 : Nat); omega, by show _ ≤ (7293033 : Nat); omega⟩) hS hFc hP hD [0, 1, 2, 3, 4, 5, 6, 7, 15] [8, 9, 10, 11, 12, 13, 14] (wr := [(bM, .inr (3, [.int cd, .int wd, .ref bT, .ref bF, .int al, .ref bN, .ref bP, .ref bQ, .ref bR, .int sz1, .int un, .int (b2i mo), .int tl, .int (b2i sp), .int tpo, .long fro, .int (b2i ly)])), (bT, .inl (kT, 8, .inl mT)), (bF, .inl (kF, 8, .inr (.inl mF))), (bN, .inl (kN, 2, .inl (fun k => b2i (mi k)))), (bP, .inl (kP, 2, .inl pw)), (bQ, .inl (kQ, 2, .inr (.inl pt))), (bR, .inl (kR, 33000, .inl (fun k => b2i (rb k))))]) rfl rfl (by decide) (by decide) (fun H locs hP hD hS => ?_)
              obtain ⟨z278, ez278⟩ : ∃ z, g_L_operate cw ts fT fF n1 p1 f1 n2 p2 f2 n3 p3 f3 hi lo ex hi2 lo2 ex2 fV (xs (x4 + 1).toNatClampNeg) (xs (x4 + 2).toNatClampNeg) (xs (x4 + 3).toNatClampNeg) (xs (x4 + 4).toNatClampNeg) = z := ⟨_, rfl⟩
              rw [ez278] at hP hD ⊢
              have hP : va_P (dC, dI) classes [(bM, .inr (3, [.int cd, .int wd, .ref bT, .ref bF, .int al, .ref bN, .ref bP, .ref bQ, .ref bR, .int sz1, .int un, .int (b2i mo), .int tl, .int (b2i sp), .int tpo, .long fro, .int (b2i ly)])), (bT, .inl (kT, 8, .inl mT)), (bF, .inl (kF, 8, .inr (.inl mF))), (bN, .inl (kN, 2, .inl (fun k => b2i (mi k)))), (bP, .inl (kP, 2, .inl pw)), (bQ, .inl (kQ, 2, .inr (.inl pt))), (bR, .inl (kR, 33000, .inl (fun k => b2i (rb k)))), (aO, .inr (0, [.ref aT, .ref aF, .int cw, .int z278.2.1, .ref a1, .ref a2, .ref a3, .ref a4, .ref a5])), (aT, .inl (cI, 8, .inl z278.2.2.1)), (aF, .inl (cL, 8, .inr (.inl z278.2.2.2.1))), (a1, .inr (1, [.int (b2i z278.2.2.2.2.1), .int z278.2.2.2.2.2.1, .long z278.2.2.2.2.2.2.1])), (a2, .inr (1, [.int (b2i z278.2.2.2.2.2.2.2.1), .int z278.2.2.2.2.2.2.2.2.1, .long z278.2.2.2.2.2.2.2.2.2.1])), (a3, .inr (1, [.int (b2i z278.2.2.2.2.2.2.2.2.2.2.1), .int z278.2.2.2.2.2.2.2.2.2.2.2.1, .long z278.2.2.2.2.2.2.2.2.2.2.2.2.1])), (a4, .inr (2, [.long z278.2.2.2.2.2.2.2.2.2.2.2.2.2.1, .long z278.2.2.2.2.2.2.2.2.2.2.2.2.2.2.1, .int z278.2.2.2.2.2.2.2.2.2.2.2.2.2.2.2.1])), (a5, .inr (2, [.long z278.2.2.2.2.2.2.2.2.2.2.2.2.2.2.2.2.1, .long z278.2.2.2.2.2.2.2.2.2.2.2.2.2.2.2.2.2.1, .int z278.2.2.2.2.2.2.2.2.2.2.2.2.2.2.2.2.2.2.1])), (aV, .inl (cV, 1, .inr (.inl z278.2.2.2.2.2.2.2.2.2.2.2.2.2.2.2.2.2.2.2)))] H := hP
              have hD : va_D A [(bM, .inr (3, [.int cd, .int wd, .ref bT, .ref bF, .int al, .ref bN, .ref bP, .ref bQ, .ref bR, .int sz1, .int un, .int (b2i mo), .int tl, .int (b2i sp), .int tpo, .long fro, .int (b2i ly)])), (bT, .inl (kT, 8, .inl mT)), (bF, .inl (kF, 8, .inr (.inl mF))), (bN, .inl (kN, 2, .inl (fun k => b2i (mi k)))), (bP, .inl (kP, 2, .inl pw)), (bQ, .inl (kQ, 2, .inr (.inl pt))), (bR, .inl (kR, 33000, .inl (fun k => b2i (rb k)))), (aO, .inr (0, [.ref aT, .ref aF, .int cw, .int z278.2.1, .ref a1, .ref a2, .ref a3, .ref a4, .ref a5])), (aT, .inl (cI, 8, .inl z278.2.2.1)), (aF, .inl (cL, 8, .inr (.inl z278.2.2.2.1))), (a1, .inr (1, [.int (b2i z278.2.2.2.2.1), .int z278.2.2.2.2.2.1, .long z278.2.2.2.2.2.2.1])), (a2, .inr (1, [.int (b2i z278.2.2.2.2.2.2.2.1), .int z278.2.2.2.2.2.2.2.2.1, .long z278.2.2.2.2.2.2.2.2.2.1])), (a3, .inr (1, [.int (b2i z278.2.2.2.2.2.2.2.2.2.2.1), .int z278.2.2.2.2.2.2.2.2.2.2.2.1, .long z278.2.2.2.2.2.2.2.2.2.2.2.2.1])), (a4, .inr (2, [.long z278.2.2.2.2.2.2.2.2.2.2.2.2.2.1, .long z278.2.2.2.2.2.2.2.2.2.2.2.2.2.2.1, .int z278.2.2.2.2.2.2.2.2.2.2.2.2.2.2.2.1])), (a5, .inr (2, [.long z278.2.2.2.2.2.2.2.2.2.2.2.2.2.2.2.2.1, .long z278.2.2.2.2.2.2.2.2.2.2.2.2.2.2.2.2.2.1, .int z278.2.2.2.2.2.2.2.2.2.2.2.2.2.2.2.2.2.2.1])), (aV, .inl (cV, 1, .inr (.inl z278.2.2.2.2.2.2.2.2.2.2.2.2.2.2.2.2.2.2.2)))] := hD
              refine lv_istore (lv' := [(5, .int z278.1), (0, .ref b), (1, .ref aO), (2, .ref bM), (3, .ref aV), (4, .int x4)]) hx hb d_L_law_281 hl (by decide) rfl (fun ls hl => ?_)
              refine lv_aload_n hx hb d_L_law_283 rfl (lv_at hl 3 rfl) ?_
              refine lv_aload_n hx hb d_L_law_284 rfl (lv_at hl 1 rfl) ?_
              refine lv_iload hx hb d_L_law_285 (lv_at hl 5 rfl) ?_
              refine lv_iconst (v := 1) hx hb d_L_law_287 (by decide) ?_
              refine lv_iadd hx hb d_L_law_288 ?_
              refine va_sld hx hb hX hbl hbA hS hI1 d_L_law_289 ?_
              refine lv_aload_n hx hb d_L_law_290 rfl (lv_at hl 1 rfl) ?_
              refine lv_iload hx hb d_L_law_291 (lv_at hl 5 rfl) ?_
              refine lv_iconst (v := 2) hx hb d_L_law_293 (by decide) ?_
              refine lv_iadd hx hb d_L_law_294 ?_
              refine va_sld hx hb hX hbl hbA hS hI2 d_L_law_295 ?_
              refine lv_aload_n hx hb d_L_law_296 rfl (lv_at hl 1 rfl) ?_
              refine lv_iload hx hb d_L_law_297 (lv_at hl 5 rfl) ?_
              refine lv_iconst (v := 3) hx hb d_L_law_299 (by decide) ?_
              refine lv_iadd hx hb d_L_law_300 ?_
              refine va_sld hx hb hX hbl hbA hS hI3 d_L_law_301 ?_
              refine lv_aload_n hx hb d_L_law_302 rfl (lv_at hl 1 rfl) ?_
              refine lv_iload hx hb d_L_law_303 (lv_at hl 5 rfl) ?_
              refine lv_iconst (v := 4) hx hb d_L_law_305 (by decide) ?_
              refine lv_iadd hx hb d_L_law_306 ?_
              refine va_sld hx hb hX hbl hbA hS hI4 d_L_law_307 ?_
              have hPc := hP.sub (ws' := [(bM, .inr (3, [.int cd, .int wd, .ref bT, .ref bF, .int al, .ref bN, .ref bP, .ref bQ, .ref bR, .int sz1, .int un, .int (b2i mo), .int tl, .int (b2i sp), .int tpo, .long fro, .int (b2i ly)])), (bT, .inl (kT, 8, .inl mT)), (bF, .inl (kF, 8, .inr (.inl mF))), (bN, .inl (kN, 2, .inl (fun k => b2i (mi k)))), (bP, .inl (kP, 2, .inl pw)), (bQ, .inl (kQ, 2, .inr (.inl pt))), (bR, .inl (kR, 33000, .inl (fun k => b2i (rb k))))]) [0, 1, 2, 3, 4, 5, 6] rfl
              have hDc := hD.sub (ws' := [(bM, .inr (3, [.int cd, .int wd, .ref bT, .ref bF, .int al, .ref bN, .ref bP, .ref bQ, .ref bR, .int sz1, .int un, .int (b2i mo), .int tl, .int (b2i sp), .int tpo, .long fro, .int (b2i ly)])), (bT, .inl (kT, 8, .inl mT)), (bF, .inl (kF, 8, .inr (.inl mF))), (bN, .inl (kN, 2, .inl (fun k => b2i (mi k)))), (bP, .inl (kP, 2, .inl pw)), (bQ, .inl (kQ, 2, .inr (.inl pt))), (bR, .inl (kR, 33000, .inl (fun k => b2i (rb k))))]) [0, 1, 2, 3, 4, 5, 6] (by decide) rfl
              have hKc := hK.sub (tys' := [(kT, .int), (kF, .long), (kN, .boolean), (kP, .int), (kQ, .long), (kR, .boolean)]) [3, 4, 5, 6, 7, 8] rfl
              have hFc := va_free (wc := [(bM, .inr (3, [.int cd, .int wd, .ref bT, .ref bF, .int al, .ref bN, .ref bP, .ref bQ, .ref bR, .int sz1, .int un, .int (b2i mo), .int tl, .int (b2i sp), .int tpo, .long fro, .int (b2i ly)])), (bT, .inl (kT, 8, .inl mT)), (bF, .inl (kF, 8, .inr (.inl mF))), (bN, .inl (kN, 2, .inl (fun k => b2i (mi k)))), (bP, .inl (kP, 2, .inl pw)), (bQ, .inl (kQ, 2, .inr (.inl pt))), (bR, .inl (kR, 33000, .inl (fun k => b2i (rb k))))]) hD hS hA [0, 1, 2, 3, 4, 5, 6] rfl
              refine cc_i (va_runV (As := [.int (xs (x4 + 1).toNatClampNeg), .int (xs (x4 + 2).toNatClampNeg), .int (xs (x4 + 3).toNatClampNeg), .int (xs (x4 + 4).toNatClampNeg)]) (rest := []) ⟨hx, hb, hml, hown, htA⟩ (c_M_operate l dC dI kT kF kN kP kQ kR bM bT bF bN bP bQ bR H.size cd wd al sz1 un mo tl sp tpo fro ly mT mF mi pw pt rb (xs (x4 + 1).toNatClampNeg) (xs (x4 + 2).toNatClampNeg) (xs (x4 + 3).toNatClampNeg) (xs (x4 + 4).toNatClampNeg) hI.2.2.2.1) (cwV 4 htA (gi_V k_422 k_423 k_424 k_263 (gi_code k_378)) rfl rfl rfl (by decide +kernel) ⟨Nat.le_of_ble_eq_true rfl, Nat.le_of_ble_eq_true rfl⟩) (pre_V hnw hPc hKc hDc (ci := 3) (q0 := 0) rfl rfl) rfl rfl hl.1 rfl (lv_room (Nat.le_of_ble_eq_true rfl)) d_L_law_308 ⟨by show _ ≤ (601024 : Nat); omega, by show _ ≤ (7293033 : Nat); omega⟩) hS hFc hP hD [0, 1, 2, 3, 4, 5, 6] [7, 8, 9, 10, 11, 12, 13, 14, 15] (wr := [(aO, .inr (0, [.ref aT, .ref aF, .int cw, .int z278.2.1, .ref a1, .ref a2, .ref a3, .ref a4, .ref a5])), (aT, .inl (cI, 8, .inl z278.2.2.1)), (aF, .inl (cL, 8, .inr (.inl z278.2.2.2.1))), (a1, .inr (1, [.int (b2i z278.2.2.2.2.1), .int z278.2.2.2.2.2.1, .long z278.2.2.2.2.2.2.1])), (a2, .inr (1, [.int (b2i z278.2.2.2.2.2.2.2.1), .int z278.2.2.2.2.2.2.2.2.1, .long z278.2.2.2.2.2.2.2.2.2.1])), (a3, .inr (1, [.int (b2i z278.2.2.2.2.2.2.2.2.2.2.1), .int z278.2.2.2.2.2.2.2.2.2.2.2.1, .long z278.2.2.2.2.2.2.2.2.2.2.2.2.1])), (a4, .inr (2, [.long z278.2.2.2.2.2.2.2.2.2.2.2.2.2.1, .long z278.2.2.2.2.2.2.2.2.2.2.2.2.2.2.1, .int z278.2.2.2.2.2.2.2.2.2.2.2.2.2.2.2.1])), (a5, .inr (2, [.long z278.2.2.2.2.2.2.2.2.2.2.2.2.2.2.2.2.1, .long z278.2.2.2.2.2.2.2.2.2.2.2.2.2.2.2.2.2.1, .int z278.2.2.2.2.2.2.2.2.2.2.2.2.2.2.2.2.2.2.1])), (aV, .inl (cV, 1, .inr (.inl z278.2.2.2.2.2.2.2.2.2.2.2.2.2.2.2.2.2.2.2)))]) rfl rfl (by decide) (by decide) (fun H locs hP hD hS => ?_)
              obtain ⟨z308, ez308⟩ : ∃ z, g_M_operate wd al sz1 un mo tl sp tpo fro ly mT mF mi pw pt rb (xs (x4 + 1).toNatClampNeg) (xs (x4 + 2).toNatClampNeg) (xs (x4 + 3).toNatClampNeg) (xs (x4 + 4).toNatClampNeg) = z := ⟨_, rfl⟩
              rw [ez308] at hP hD ⊢
              have hP : va_P (dC, dI) classes [(aO, .inr (0, [.ref aT, .ref aF, .int cw, .int z278.2.1, .ref a1, .ref a2, .ref a3, .ref a4, .ref a5])), (aT, .inl (cI, 8, .inl z278.2.2.1)), (aF, .inl (cL, 8, .inr (.inl z278.2.2.2.1))), (a1, .inr (1, [.int (b2i z278.2.2.2.2.1), .int z278.2.2.2.2.2.1, .long z278.2.2.2.2.2.2.1])), (a2, .inr (1, [.int (b2i z278.2.2.2.2.2.2.2.1), .int z278.2.2.2.2.2.2.2.2.1, .long z278.2.2.2.2.2.2.2.2.2.1])), (a3, .inr (1, [.int (b2i z278.2.2.2.2.2.2.2.2.2.2.1), .int z278.2.2.2.2.2.2.2.2.2.2.2.1, .long z278.2.2.2.2.2.2.2.2.2.2.2.2.1])), (a4, .inr (2, [.long z278.2.2.2.2.2.2.2.2.2.2.2.2.2.1, .long z278.2.2.2.2.2.2.2.2.2.2.2.2.2.2.1, .int z278.2.2.2.2.2.2.2.2.2.2.2.2.2.2.2.1])), (a5, .inr (2, [.long z278.2.2.2.2.2.2.2.2.2.2.2.2.2.2.2.2.1, .long z278.2.2.2.2.2.2.2.2.2.2.2.2.2.2.2.2.2.1, .int z278.2.2.2.2.2.2.2.2.2.2.2.2.2.2.2.2.2.2.1])), (aV, .inl (cV, 1, .inr (.inl z278.2.2.2.2.2.2.2.2.2.2.2.2.2.2.2.2.2.2.2))), (bM, .inr (3, [.int z308.2.1, .int wd, .ref bT, .ref bF, .int z308.2.2.1, .ref bN, .ref bP, .ref bQ, .ref bR, .int z308.2.2.2.1, .int z308.2.2.2.2.1, .int (b2i z308.2.2.2.2.2.1), .int z308.2.2.2.2.2.2.1, .int (b2i z308.2.2.2.2.2.2.2.1), .int z308.2.2.2.2.2.2.2.2.1, .long z308.2.2.2.2.2.2.2.2.2.1, .int (b2i z308.2.2.2.2.2.2.2.2.2.2.1)])), (bT, .inl (kT, 8, .inl z308.2.2.2.2.2.2.2.2.2.2.2.1)), (bF, .inl (kF, 8, .inr (.inl z308.2.2.2.2.2.2.2.2.2.2.2.2.1))), (bN, .inl (kN, 2, .inl (fun k => b2i (z308.2.2.2.2.2.2.2.2.2.2.2.2.2.1 k)))), (bP, .inl (kP, 2, .inl z308.2.2.2.2.2.2.2.2.2.2.2.2.2.2.1)), (bQ, .inl (kQ, 2, .inr (.inl z308.2.2.2.2.2.2.2.2.2.2.2.2.2.2.2.1))), (bR, .inl (kR, 33000, .inl (fun k => b2i (z308.2.2.2.2.2.2.2.2.2.2.2.2.2.2.2.2 k))))] H := hP
              have hD : va_D A [(aO, .inr (0, [.ref aT, .ref aF, .int cw, .int z278.2.1, .ref a1, .ref a2, .ref a3, .ref a4, .ref a5])), (aT, .inl (cI, 8, .inl z278.2.2.1)), (aF, .inl (cL, 8, .inr (.inl z278.2.2.2.1))), (a1, .inr (1, [.int (b2i z278.2.2.2.2.1), .int z278.2.2.2.2.2.1, .long z278.2.2.2.2.2.2.1])), (a2, .inr (1, [.int (b2i z278.2.2.2.2.2.2.2.1), .int z278.2.2.2.2.2.2.2.2.1, .long z278.2.2.2.2.2.2.2.2.2.1])), (a3, .inr (1, [.int (b2i z278.2.2.2.2.2.2.2.2.2.2.1), .int z278.2.2.2.2.2.2.2.2.2.2.2.1, .long z278.2.2.2.2.2.2.2.2.2.2.2.2.1])), (a4, .inr (2, [.long z278.2.2.2.2.2.2.2.2.2.2.2.2.2.1, .long z278.2.2.2.2.2.2.2.2.2.2.2.2.2.2.1, .int z278.2.2.2.2.2.2.2.2.2.2.2.2.2.2.2.1])), (a5, .inr (2, [.long z278.2.2.2.2.2.2.2.2.2.2.2.2.2.2.2.2.1, .long z278.2.2.2.2.2.2.2.2.2.2.2.2.2.2.2.2.2.1, .int z278.2.2.2.2.2.2.2.2.2.2.2.2.2.2.2.2.2.2.1])), (aV, .inl (cV, 1, .inr (.inl z278.2.2.2.2.2.2.2.2.2.2.2.2.2.2.2.2.2.2.2))), (bM, .inr (3, [.int z308.2.1, .int wd, .ref bT, .ref bF, .int z308.2.2.1, .ref bN, .ref bP, .ref bQ, .ref bR, .int z308.2.2.2.1, .int z308.2.2.2.2.1, .int (b2i z308.2.2.2.2.2.1), .int z308.2.2.2.2.2.2.1, .int (b2i z308.2.2.2.2.2.2.2.1), .int z308.2.2.2.2.2.2.2.2.1, .long z308.2.2.2.2.2.2.2.2.2.1, .int (b2i z308.2.2.2.2.2.2.2.2.2.2.1)])), (bT, .inl (kT, 8, .inl z308.2.2.2.2.2.2.2.2.2.2.2.1)), (bF, .inl (kF, 8, .inr (.inl z308.2.2.2.2.2.2.2.2.2.2.2.2.1))), (bN, .inl (kN, 2, .inl (fun k => b2i (z308.2.2.2.2.2.2.2.2.2.2.2.2.2.1 k)))), (bP, .inl (kP, 2, .inl z308.2.2.2.2.2.2.2.2.2.2.2.2.2.2.1)), (bQ, .inl (kQ, 2, .inr (.inl z308.2.2.2.2.2.2.2.2.2.2.2.2.2.2.2.1))), (bR, .inl (kR, 33000, .inl (fun k => b2i (z308.2.2.2.2.2.2.2.2.2.2.2.2.2.2.2.2 k))))] := hD
              refine lv_istore (lv' := [(6, .int z308.1), (5, .int z278.1), (0, .ref b), (1, .ref aO), (2, .ref bM), (3, .ref aV), (4, .int x4)]) hx hb d_L_law_311 hl (by decide) rfl (fun ls hl => ?_)
              refine lv_aload_n hx hb d_L_law_313 rfl (lv_at hl 4 rfl) ?_
              have hPc := hP.sub (ws' := [(bM, .inr (3, [.int z308.2.1, .int wd, .ref bT, .ref bF, .int z308.2.2.1, .ref bN, .ref bP, .ref bQ, .ref bR, .int z308.2.2.2.1, .int z308.2.2.2.2.1, .int (b2i z308.2.2.2.2.2.1), .int z308.2.2.2.2.2.2.1, .int (b2i z308.2.2.2.2.2.2.2.1), .int z308.2.2.2.2.2.2.2.2.1, .long z308.2.2.2.2.2.2.2.2.2.1, .int (b2i z308.2.2.2.2.2.2.2.2.2.2.1)]))]) [9] rfl
              have hDc := hD.sub (ws' := [(bM, .inr (3, [.int z308.2.1, .int wd, .ref bT, .ref bF, .int z308.2.2.1, .ref bN, .ref bP, .ref bQ, .ref bR, .int z308.2.2.2.1, .int z308.2.2.2.2.1, .int (b2i z308.2.2.2.2.2.1), .int z308.2.2.2.2.2.2.1, .int (b2i z308.2.2.2.2.2.2.2.1), .int z308.2.2.2.2.2.2.2.2.1, .long z308.2.2.2.2.2.2.2.2.2.1, .int (b2i z308.2.2.2.2.2.2.2.2.2.2.1)]))]) [9] (by decide) rfl
              have hKc := hK.sub (tys' := []) [] rfl
              have hFc := va_free (wc := [(bM, .inr (3, [.int z308.2.1, .int wd, .ref bT, .ref bF, .int z308.2.2.1, .ref bN, .ref bP, .ref bQ, .ref bR, .int z308.2.2.2.1, .int z308.2.2.2.2.1, .int (b2i z308.2.2.2.2.2.1), .int z308.2.2.2.2.2.2.1, .int (b2i z308.2.2.2.2.2.2.2.1), .int z308.2.2.2.2.2.2.2.2.1, .long z308.2.2.2.2.2.2.2.2.2.1, .int (b2i z308.2.2.2.2.2.2.2.2.2.2.1)]))]) hD hS hA [9] rfl
              refine cc_i (va_runV (As := []) (rest := []) ⟨hx, hb, hml, hown, htA⟩ (c_M_thrown l dC dI bM bT bF bN bP bQ bR H.size z308.2.1 wd z308.2.2.1 z308.2.2.2.1 z308.2.2.2.2.1 z308.2.2.2.2.2.1 z308.2.2.2.2.2.2.1 z308.2.2.2.2.2.2.2.1 z308.2.2.2.2.2.2.2.2.1 z308.2.2.2.2.2.2.2.2.2.1 z308.2.2.2.2.2.2.2.2.2.2.1) (cwV 0 htA (gi_V k_407 k_408 k_409 k_263 (gi_code k_240)) rfl rfl rfl (by decide +kernel) ⟨Nat.le_of_ble_eq_true rfl, Nat.le_of_ble_eq_true rfl⟩) (pre_V hnw hPc hKc hDc (ci := 3) (q0 := 0) rfl rfl) rfl rfl hl.1 rfl (lv_room (Nat.le_of_ble_eq_true rfl)) d_L_law_314 ⟨by show _ ≤ (601024 : Nat); omega, by show _ ≤ (7293033 : Nat); omega⟩) hS hFc hP hD [9] [0, 1, 2, 3, 4, 5, 6, 7, 8, 10, 11, 12, 13, 14, 15] (wr := [(aO, .inr (0, [.ref aT, .ref aF, .int cw, .int z278.2.1, .ref a1, .ref a2, .ref a3, .ref a4, .ref a5])), (aT, .inl (cI, 8, .inl z278.2.2.1)), (aF, .inl (cL, 8, .inr (.inl z278.2.2.2.1))), (a1, .inr (1, [.int (b2i z278.2.2.2.2.1), .int z278.2.2.2.2.2.1, .long z278.2.2.2.2.2.2.1])), (a2, .inr (1, [.int (b2i z278.2.2.2.2.2.2.2.1), .int z278.2.2.2.2.2.2.2.2.1, .long z278.2.2.2.2.2.2.2.2.2.1])), (a3, .inr (1, [.int (b2i z278.2.2.2.2.2.2.2.2.2.2.1), .int z278.2.2.2.2.2.2.2.2.2.2.2.1, .long z278.2.2.2.2.2.2.2.2.2.2.2.2.1])), (a4, .inr (2, [.long z278.2.2.2.2.2.2.2.2.2.2.2.2.2.1, .long z278.2.2.2.2.2.2.2.2.2.2.2.2.2.2.1, .int z278.2.2.2.2.2.2.2.2.2.2.2.2.2.2.2.1])), (a5, .inr (2, [.long z278.2.2.2.2.2.2.2.2.2.2.2.2.2.2.2.2.1, .long z278.2.2.2.2.2.2.2.2.2.2.2.2.2.2.2.2.2.1, .int z278.2.2.2.2.2.2.2.2.2.2.2.2.2.2.2.2.2.2.1])), (aV, .inl (cV, 1, .inr (.inl z278.2.2.2.2.2.2.2.2.2.2.2.2.2.2.2.2.2.2.2))), (bT, .inl (kT, 8, .inl z308.2.2.2.2.2.2.2.2.2.2.2.1)), (bF, .inl (kF, 8, .inr (.inl z308.2.2.2.2.2.2.2.2.2.2.2.2.1))), (bN, .inl (kN, 2, .inl (fun k => b2i (z308.2.2.2.2.2.2.2.2.2.2.2.2.2.1 k)))), (bP, .inl (kP, 2, .inl z308.2.2.2.2.2.2.2.2.2.2.2.2.2.2.1)), (bQ, .inl (kQ, 2, .inr (.inl z308.2.2.2.2.2.2.2.2.2.2.2.2.2.2.2.1))), (bR, .inl (kR, 33000, .inl (fun k => b2i (z308.2.2.2.2.2.2.2.2.2.2.2.2.2.2.2.2 k))))]) rfl rfl (by decide) (by decide) (fun H locs hP hD hS => ?_)
              have hP : va_P (dC, dI) classes [(aO, .inr (0, [.ref aT, .ref aF, .int cw, .int z278.2.1, .ref a1, .ref a2, .ref a3, .ref a4, .ref a5])), (aT, .inl (cI, 8, .inl z278.2.2.1)), (aF, .inl (cL, 8, .inr (.inl z278.2.2.2.1))), (a1, .inr (1, [.int (b2i z278.2.2.2.2.1), .int z278.2.2.2.2.2.1, .long z278.2.2.2.2.2.2.1])), (a2, .inr (1, [.int (b2i z278.2.2.2.2.2.2.2.1), .int z278.2.2.2.2.2.2.2.2.1, .long z278.2.2.2.2.2.2.2.2.2.1])), (a3, .inr (1, [.int (b2i z278.2.2.2.2.2.2.2.2.2.2.1), .int z278.2.2.2.2.2.2.2.2.2.2.2.1, .long z278.2.2.2.2.2.2.2.2.2.2.2.2.1])), (a4, .inr (2, [.long z278.2.2.2.2.2.2.2.2.2.2.2.2.2.1, .long z278.2.2.2.2.2.2.2.2.2.2.2.2.2.2.1, .int z278.2.2.2.2.2.2.2.2.2.2.2.2.2.2.2.1])), (a5, .inr (2, [.long z278.2.2.2.2.2.2.2.2.2.2.2.2.2.2.2.2.1, .long z278.2.2.2.2.2.2.2.2.2.2.2.2.2.2.2.2.2.1, .int z278.2.2.2.2.2.2.2.2.2.2.2.2.2.2.2.2.2.2.1])), (aV, .inl (cV, 1, .inr (.inl z278.2.2.2.2.2.2.2.2.2.2.2.2.2.2.2.2.2.2.2))), (bT, .inl (kT, 8, .inl z308.2.2.2.2.2.2.2.2.2.2.2.1)), (bF, .inl (kF, 8, .inr (.inl z308.2.2.2.2.2.2.2.2.2.2.2.2.1))), (bN, .inl (kN, 2, .inl (fun k => b2i (z308.2.2.2.2.2.2.2.2.2.2.2.2.2.1 k)))), (bP, .inl (kP, 2, .inl z308.2.2.2.2.2.2.2.2.2.2.2.2.2.2.1)), (bQ, .inl (kQ, 2, .inr (.inl z308.2.2.2.2.2.2.2.2.2.2.2.2.2.2.2.1))), (bR, .inl (kR, 33000, .inl (fun k => b2i (z308.2.2.2.2.2.2.2.2.2.2.2.2.2.2.2.2 k)))), (bM, .inr (3, [.int z308.2.1, .int wd, .ref bT, .ref bF, .int z308.2.2.1, .ref bN, .ref bP, .ref bQ, .ref bR, .int z308.2.2.2.1, .int z308.2.2.2.2.1, .int (b2i z308.2.2.2.2.2.1), .int z308.2.2.2.2.2.2.1, .int (b2i z308.2.2.2.2.2.2.2.1), .int z308.2.2.2.2.2.2.2.2.1, .long z308.2.2.2.2.2.2.2.2.2.1, .int (b2i z308.2.2.2.2.2.2.2.2.2.2.1)]))] H := hP
              have hD : va_D A [(aO, .inr (0, [.ref aT, .ref aF, .int cw, .int z278.2.1, .ref a1, .ref a2, .ref a3, .ref a4, .ref a5])), (aT, .inl (cI, 8, .inl z278.2.2.1)), (aF, .inl (cL, 8, .inr (.inl z278.2.2.2.1))), (a1, .inr (1, [.int (b2i z278.2.2.2.2.1), .int z278.2.2.2.2.2.1, .long z278.2.2.2.2.2.2.1])), (a2, .inr (1, [.int (b2i z278.2.2.2.2.2.2.2.1), .int z278.2.2.2.2.2.2.2.2.1, .long z278.2.2.2.2.2.2.2.2.2.1])), (a3, .inr (1, [.int (b2i z278.2.2.2.2.2.2.2.2.2.2.1), .int z278.2.2.2.2.2.2.2.2.2.2.2.1, .long z278.2.2.2.2.2.2.2.2.2.2.2.2.1])), (a4, .inr (2, [.long z278.2.2.2.2.2.2.2.2.2.2.2.2.2.1, .long z278.2.2.2.2.2.2.2.2.2.2.2.2.2.2.1, .int z278.2.2.2.2.2.2.2.2.2.2.2.2.2.2.2.1])), (a5, .inr (2, [.long z278.2.2.2.2.2.2.2.2.2.2.2.2.2.2.2.2.1, .long z278.2.2.2.2.2.2.2.2.2.2.2.2.2.2.2.2.2.1, .int z278.2.2.2.2.2.2.2.2.2.2.2.2.2.2.2.2.2.2.1])), (aV, .inl (cV, 1, .inr (.inl z278.2.2.2.2.2.2.2.2.2.2.2.2.2.2.2.2.2.2.2))), (bT, .inl (kT, 8, .inl z308.2.2.2.2.2.2.2.2.2.2.2.1)), (bF, .inl (kF, 8, .inr (.inl z308.2.2.2.2.2.2.2.2.2.2.2.2.1))), (bN, .inl (kN, 2, .inl (fun k => b2i (z308.2.2.2.2.2.2.2.2.2.2.2.2.2.1 k)))), (bP, .inl (kP, 2, .inl z308.2.2.2.2.2.2.2.2.2.2.2.2.2.2.1)), (bQ, .inl (kQ, 2, .inr (.inl z308.2.2.2.2.2.2.2.2.2.2.2.2.2.2.2.1))), (bR, .inl (kR, 33000, .inl (fun k => b2i (z308.2.2.2.2.2.2.2.2.2.2.2.2.2.2.2.2 k)))), (bM, .inr (3, [.int z308.2.1, .int wd, .ref bT, .ref bF, .int z308.2.2.1, .ref bN, .ref bP, .ref bQ, .ref bR, .int z308.2.2.2.1, .int z308.2.2.2.2.1, .int (b2i z308.2.2.2.2.2.1), .int z308.2.2.2.2.2.2.1, .int (b2i z308.2.2.2.2.2.2.2.1), .int z308.2.2.2.2.2.2.2.2.1, .long z308.2.2.2.2.2.2.2.2.2.1, .int (b2i z308.2.2.2.2.2.2.2.2.2.2.1)]))] := hD
              refine lv_iload hx hb d_L_law_317 (lv_at hl 1 rfl) ?_
              refine lv_icmp_eq (tgt := 324) hx hb d_L_law_319 (by decide) (fun c_319 => ?_) (fun c_319 => ?_)
              · skip
                refine lv_iload hx hb d_L_law_324 (lv_at hl 1 rfl) ?_
                refine lv_if_ne (tgt := 341) hx hb d_L_law_326 (by decide) (fun c_326 => ?_) (fun c_326 => ?_)
                · skip
                  refine lv_goto (tgt := 368) hx hb d_L_law_341 (by decide) ?_
                  refine lv_iinc (v := (x4 + 5)) (lv' := [(4, .int (x4 + 5)), (6, .int z308.1), (5, .int z278.1), (0, .ref b), (1, .ref aO), (2, .ref bM), (3, .ref aV)]) hx hb d_L_law_368 hl (k := 6) rfl rfl (by decide) rfl (fun ls hl => ?_)
                  refine lv_goto (tgt := 23) hx hb d_L_law_371 (by decide) ?_
                  refine W.widen (k := 16 + (i + 5)) (n := 33080 + 6 * (i + 5)) (by omega) (by omega) ?_
                  exact ih (i + 5) hlt (by omega) (x4 + 5) (by rw [ex4]; exact nI_add5 i) cw z278.2.1 z278.2.2.1 z278.2.2.2.1 z278.2.2.2.2.1 z278.2.2.2.2.2.1 z278.2.2.2.2.2.2.1 z278.2.2.2.2.2.2.2.1 z278.2.2.2.2.2.2.2.2.1 z278.2.2.2.2.2.2.2.2.2.1 z278.2.2.2.2.2.2.2.2.2.2.1 z278.2.2.2.2.2.2.2.2.2.2.2.1 z278.2.2.2.2.2.2.2.2.2.2.2.2.1 z278.2.2.2.2.2.2.2.2.2.2.2.2.2.1 z278.2.2.2.2.2.2.2.2.2.2.2.2.2.2.1 z278.2.2.2.2.2.2.2.2.2.2.2.2.2.2.2.1 z278.2.2.2.2.2.2.2.2.2.2.2.2.2.2.2.2.1 z278.2.2.2.2.2.2.2.2.2.2.2.2.2.2.2.2.2.1 z278.2.2.2.2.2.2.2.2.2.2.2.2.2.2.2.2.2.2.1 z308.2.1 wd z308.2.2.1 z308.2.2.2.1 z308.2.2.2.2.1 z308.2.2.2.2.2.1 z308.2.2.2.2.2.2.1 z308.2.2.2.2.2.2.2.1 z308.2.2.2.2.2.2.2.2.1 z308.2.2.2.2.2.2.2.2.2.1 z308.2.2.2.2.2.2.2.2.2.2.1 z308.2.2.2.2.2.2.2.2.2.2.2.1 z308.2.2.2.2.2.2.2.2.2.2.2.2.1 z308.2.2.2.2.2.2.2.2.2.2.2.2.2.1 z308.2.2.2.2.2.2.2.2.2.2.2.2.2.2.1 z308.2.2.2.2.2.2.2.2.2.2.2.2.2.2.2.1 z308.2.2.2.2.2.2.2.2.2.2.2.2.2.2.2.2 z278.2.2.2.2.2.2.2.2.2.2.2.2.2.2.2.2.2.2.2 (by clear hP hD hl hS; subst ez308; subst ez278; exact (hop cw ts fT fF n1 p1 f1 n2 p2 f2 n3 p3 f3 hi lo ex hi2 lo2 ex2 cd wd al sz1 un mo tl sp tpo fro ly mT mF mi pw pt rb fV hI (xs (x4 + 1).toNatClampNeg) (xs (x4 + 2).toNatClampNeg) (xs (x4 + 3).toNatClampNeg) (xs (x4 + 4).toNatClampNeg)).2.2) cI cL kT kF kN kP kQ kR cV aO aT aF a1 a2 a3 a4 a5 bM bT bF bN bP bQ bR aV H locs hK (hP.sub [0, 1, 2, 3, 4, 5, 6, 7, 15, 9, 10, 11, 12, 13, 14, 8] rfl) (hD.sub [0, 1, 2, 3, 4, 5, 6, 7, 15, 9, 10, 11, 12, 13, 14, 8] (by decide) rfl) hS ls (lv_sub hl [3, 4, 5, 6, 0] rfl)
                · skip
                  refine lv_aload_n hx hb d_L_law_329 rfl (lv_at hl 5 rfl) ?_
                  refine lv_iconst (v := 0) hx hb d_L_law_330 (by decide) ?_
                  refine va_lald hx hb hK hP 8 2 rfl rfl in1_0 d_L_law_331 ?_
                  refine lv_iload hx hb d_L_law_332 (lv_at hl 0 rfl) ?_
                  refine lv_i2l (v := z308.1.toInt64) hx hb d_L_law_334 rfl ?_
                  refine W.lcmp hx hb d_L_law_335 ?_
                  refine lv_if_eq (tgt := 341) hx hb d_L_law_336 (by decide) (fun c_336 => ?_) (fun c_336 => ?_)
                  · skip
                    have c_336 : (z278.2.2.2.2.2.2.2.2.2.2.2.2.2.2.2.2.2.2.2 (0 : Int32).toNatClampNeg) = (z308.1.toInt64) := (lg_cmp_eq _ _).mp c_336
                    refine lv_goto (tgt := 368) hx hb d_L_law_341 (by decide) ?_
                    refine lv_iinc (v := (x4 + 5)) (lv' := [(4, .int (x4 + 5)), (6, .int z308.1), (5, .int z278.1), (0, .ref b), (1, .ref aO), (2, .ref bM), (3, .ref aV)]) hx hb d_L_law_368 hl (k := 6) rfl rfl (by decide) rfl (fun ls hl => ?_)
                    refine lv_goto (tgt := 23) hx hb d_L_law_371 (by decide) ?_
                    refine W.widen (k := 16 + (i + 5)) (n := 33080 + 6 * (i + 5)) (by omega) (by omega) ?_
                    exact ih (i + 5) hlt (by omega) (x4 + 5) (by rw [ex4]; exact nI_add5 i) cw z278.2.1 z278.2.2.1 z278.2.2.2.1 z278.2.2.2.2.1 z278.2.2.2.2.2.1 z278.2.2.2.2.2.2.1 z278.2.2.2.2.2.2.2.1 z278.2.2.2.2.2.2.2.2.1 z278.2.2.2.2.2.2.2.2.2.1 z278.2.2.2.2.2.2.2.2.2.2.1 z278.2.2.2.2.2.2.2.2.2.2.2.1 z278.2.2.2.2.2.2.2.2.2.2.2.2.1 z278.2.2.2.2.2.2.2.2.2.2.2.2.2.1 z278.2.2.2.2.2.2.2.2.2.2.2.2.2.2.1 z278.2.2.2.2.2.2.2.2.2.2.2.2.2.2.2.1 z278.2.2.2.2.2.2.2.2.2.2.2.2.2.2.2.2.1 z278.2.2.2.2.2.2.2.2.2.2.2.2.2.2.2.2.2.1 z278.2.2.2.2.2.2.2.2.2.2.2.2.2.2.2.2.2.2.1 z308.2.1 wd z308.2.2.1 z308.2.2.2.1 z308.2.2.2.2.1 z308.2.2.2.2.2.1 z308.2.2.2.2.2.2.1 z308.2.2.2.2.2.2.2.1 z308.2.2.2.2.2.2.2.2.1 z308.2.2.2.2.2.2.2.2.2.1 z308.2.2.2.2.2.2.2.2.2.2.1 z308.2.2.2.2.2.2.2.2.2.2.2.1 z308.2.2.2.2.2.2.2.2.2.2.2.2.1 z308.2.2.2.2.2.2.2.2.2.2.2.2.2.1 z308.2.2.2.2.2.2.2.2.2.2.2.2.2.2.1 z308.2.2.2.2.2.2.2.2.2.2.2.2.2.2.2.1 z308.2.2.2.2.2.2.2.2.2.2.2.2.2.2.2.2 z278.2.2.2.2.2.2.2.2.2.2.2.2.2.2.2.2.2.2.2 (by clear hP hD hl hS; subst ez308; subst ez278; exact (hop cw ts fT fF n1 p1 f1 n2 p2 f2 n3 p3 f3 hi lo ex hi2 lo2 ex2 cd wd al sz1 un mo tl sp tpo fro ly mT mF mi pw pt rb fV hI (xs (x4 + 1).toNatClampNeg) (xs (x4 + 2).toNatClampNeg) (xs (x4 + 3).toNatClampNeg) (xs (x4 + 4).toNatClampNeg)).2.2) cI cL kT kF kN kP kQ kR cV aO aT aF a1 a2 a3 a4 a5 bM bT bF bN bP bQ bR aV H locs hK (hP.sub [0, 1, 2, 3, 4, 5, 6, 7, 15, 9, 10, 11, 12, 13, 14, 8] rfl) (hD.sub [0, 1, 2, 3, 4, 5, 6, 7, 15, 9, 10, 11, 12, 13, 14, 8] (by decide) rfl) hS ls (lv_sub hl [3, 4, 5, 6, 0] rfl)
                  · skip
                    have c_336 : ¬ (z278.2.2.2.2.2.2.2.2.2.2.2.2.2.2.2.2.2.2.2 (0 : Int32).toNatClampNeg) = (z308.1.toInt64) := fun h9 => c_336 ((lg_cmp_eq _ _).mpr h9)
                    exact absurd (by clear hP hD hl hS; subst ez308; subst ez278; exact (hop cw ts fT fF n1 p1 f1 n2 p2 f2 n3 p3 f3 hi lo ex hi2 lo2 ex2 cd wd al sz1 un mo tl sp tpo fro ly mT mF mi pw pt rb fV hI (xs (x4 + 1).toNatClampNeg) (xs (x4 + 2).toNatClampNeg) (xs (x4 + 3).toNatClampNeg) (xs (x4 + 4).toNatClampNeg)).2.1 c_326) c_336
              · skip
                exact absurd (by clear hP hD hl hS; subst ez308; subst ez278; exact (hop cw ts fT fF n1 p1 f1 n2 p2 f2 n3 p3 f3 hi lo ex hi2 lo2 ex2 cd wd al sz1 un mo tl sp tpo fro ly mT mF mi pw pt rb fV hI (xs (x4 + 1).toNatClampNeg) (xs (x4 + 2).toNatClampNeg) (xs (x4 + 3).toNatClampNeg) (xs (x4 + 4).toNatClampNeg)).1.symm) c_319
            · skip
              by_cases c_39_4 : ((xs x4.toNatClampNeg) &&& 7) = 4
              · skip
                refine lv_tableIn (off := 305) (tgt := 344) hx hb d_L_law_39 (by rw [c_39_4]; decide) (by rw [c_39_4]; decide) (by rw [c_39_4]; rfl) (by decide) ?_
                refine lv_aload_n hx hb d_L_law_344 rfl (lv_at hl 1 rfl) ?_
                have hPc := hP.sub (ws' := [(aO, .inr (0, [.ref aT, .ref aF, .int cw, .int ts, .ref a1, .ref a2, .ref a3, .ref a4, .ref a5]))]) [0] rfl
                have hDc := hD.sub (ws' := [(aO, .inr (0, [.ref aT, .ref aF, .int cw, .int ts, .ref a1, .ref a2, .ref a3, .ref a4, .ref a5]))]) [0] (by decide) rfl
                have hKc := hK.sub (tys' := []) [] rfl
                have hFc := va_free (wc := [(aO, .inr (0, [.ref aT, .ref aF, .int cw, .int ts, .ref a1, .ref a2, .ref a3, .ref a4, .ref a5]))]) hD hS hA [0] rfl
                refine cc_i (va_runV (As := []) (rest := []) ⟨hx, hb, hml, hown, htA⟩ (c_O_told l dC dI aO aT aF a1 a2 a3 a4 a5 H.size cw ts) (cwV 0 htA (gi_V k_425 k_426 k_427 k_90 (gi_code k_102)) rfl rfl rfl (by decide +kernel) ⟨Nat.le_of_ble_eq_true rfl, Nat.le_of_ble_eq_true rfl⟩) (pre_V hnw hPc hKc hDc (ci := 0) (q0 := 0) rfl rfl) rfl rfl hl.1 rfl (lv_room (Nat.le_of_ble_eq_true rfl)) d_L_law_345 ⟨by show _ ≤ (601024 : Nat); omega, by show _ ≤ (7293033 : Nat); omega⟩) hS hFc hP hD [0] [1, 2, 3, 4, 5, 6, 7, 8, 9, 10, 11, 12, 13, 14, 15] (wr := [(aT, .inl (cI, 8, .inl fT)), (aF, .inl (cL, 8, .inr (.inl fF))), (a1, .inr (1, [.int (b2i n1), .int p1, .long f1])), (a2, .inr (1, [.int (b2i n2), .int p2, .long f2])), (a3, .inr (1, [.int (b2i n3), .int p3, .long f3])), (a4, .inr (2, [.long hi, .long lo, .int ex])), (a5, .inr (2, [.long hi2, .long lo2, .int ex2])), (bM, .inr (3, [.int cd, .int wd, .ref bT, .ref bF, .int al, .ref bN, .ref bP, .ref bQ, .ref bR, .int sz1, .int un, .int (b2i mo), .int tl, .int (b2i sp), .int tpo, .long fro, .int (b2i ly)])), (bT, .inl (kT, 8, .inl mT)), (bF, .inl (kF, 8, .inr (.inl mF))), (bN, .inl (kN, 2, .inl (fun k => b2i (mi k)))), (bP, .inl (kP, 2, .inl pw)), (bQ, .inl (kQ, 2, .inr (.inl pt))), (bR, .inl (kR, 33000, .inl (fun k => b2i (rb k)))), (aV, .inl (cV, 1, .inr (.inl fV)))]) rfl rfl (by decide) (by decide) (fun H locs hP hD hS => ?_)
                have hP : va_P (dC, dI) classes [(aT, .inl (cI, 8, .inl fT)), (aF, .inl (cL, 8, .inr (.inl fF))), (a1, .inr (1, [.int (b2i n1), .int p1, .long f1])), (a2, .inr (1, [.int (b2i n2), .int p2, .long f2])), (a3, .inr (1, [.int (b2i n3), .int p3, .long f3])), (a4, .inr (2, [.long hi, .long lo, .int ex])), (a5, .inr (2, [.long hi2, .long lo2, .int ex2])), (bM, .inr (3, [.int cd, .int wd, .ref bT, .ref bF, .int al, .ref bN, .ref bP, .ref bQ, .ref bR, .int sz1, .int un, .int (b2i mo), .int tl, .int (b2i sp), .int tpo, .long fro, .int (b2i ly)])), (bT, .inl (kT, 8, .inl mT)), (bF, .inl (kF, 8, .inr (.inl mF))), (bN, .inl (kN, 2, .inl (fun k => b2i (mi k)))), (bP, .inl (kP, 2, .inl pw)), (bQ, .inl (kQ, 2, .inr (.inl pt))), (bR, .inl (kR, 33000, .inl (fun k => b2i (rb k)))), (aV, .inl (cV, 1, .inr (.inl fV))), (aO, .inr (0, [.ref aT, .ref aF, .int cw, .int ts, .ref a1, .ref a2, .ref a3, .ref a4, .ref a5]))] H := hP
                have hD : va_D A [(aT, .inl (cI, 8, .inl fT)), (aF, .inl (cL, 8, .inr (.inl fF))), (a1, .inr (1, [.int (b2i n1), .int p1, .long f1])), (a2, .inr (1, [.int (b2i n2), .int p2, .long f2])), (a3, .inr (1, [.int (b2i n3), .int p3, .long f3])), (a4, .inr (2, [.long hi, .long lo, .int ex])), (a5, .inr (2, [.long hi2, .long lo2, .int ex2])), (bM, .inr (3, [.int cd, .int wd, .ref bT, .ref bF, .int al, .ref bN, .ref bP, .ref bQ, .ref bR, .int sz1, .int un, .int (b2i mo), .int tl, .int (b2i sp), .int tpo, .long fro, .int (b2i ly)])), (bT, .inl (kT, 8, .inl mT)), (bF, .inl (kF, 8, .inr (.inl mF))), (bN, .inl (kN, 2, .inl (fun k => b2i (mi k)))), (bP, .inl (kP, 2, .inl pw)), (bQ, .inl (kQ, 2, .inr (.inl pt))), (bR, .inl (kR, 33000, .inl (fun k => b2i (rb k)))), (aV, .inl (cV, 1, .inr (.inl fV))), (aO, .inr (0, [.ref aT, .ref aF, .int cw, .int ts, .ref a1, .ref a2, .ref a3, .ref a4, .ref a5]))] := hD
                refine lv_aload_n hx hb d_L_law_348 rfl (lv_at hl 2 rfl) ?_
                have hPc := hP.sub (ws' := [(bM, .inr (3, [.int cd, .int wd, .ref bT, .ref bF, .int al, .ref bN, .ref bP, .ref bQ, .ref bR, .int sz1, .int un, .int (b2i mo), .int tl, .int (b2i sp), .int tpo, .long fro, .int (b2i ly)]))]) [7] rfl
                have hDc := hD.sub (ws' := [(bM, .inr (3, [.int cd, .int wd, .ref bT, .ref bF, .int al, .ref bN, .ref bP, .ref bQ, .ref bR, .int sz1, .int un, .int (b2i mo), .int tl, .int (b2i sp), .int tpo, .long fro, .int (b2i ly)]))]) [7] (by decide) rfl
                have hKc := hK.sub (tys' := []) [] rfl
                have hFc := va_free (wc := [(bM, .inr (3, [.int cd, .int wd, .ref bT, .ref bF, .int al, .ref bN, .ref bP, .ref bQ, .ref bR, .int sz1, .int un, .int (b2i mo), .int tl, .int (b2i sp), .int tpo, .long fro, .int (b2i ly)]))]) hD hS hA [7] rfl
                refine cc_i (va_runV (As := []) (rest := [.int (g_O_told ts)]) ⟨hx, hb, hml, hown, htA⟩ (c_M_told l dC dI bM bT bF bN bP bQ bR H.size cd wd al sz1 un mo tl sp tpo fro ly) (cwV 0 htA (gi_V k_428 k_429 k_430 k_263 (gi_code k_242)) rfl rfl rfl (by decide +kernel) ⟨Nat.le_of_ble_eq_true rfl, Nat.le_of_ble_eq_true rfl⟩) (pre_V hnw hPc hKc hDc (ci := 3) (q0 := 0) rfl rfl) rfl rfl hl.1 rfl (lv_room (Nat.le_of_ble_eq_true rfl)) d_L_law_349 ⟨by show _ ≤ (601024 : Nat); omega, by show _ ≤ (7293033 : Nat); omega⟩) hS hFc hP hD [7] [0, 1, 2, 3, 4, 5, 6, 8, 9, 10, 11, 12, 13, 14, 15] (wr := [(aT, .inl (cI, 8, .inl fT)), (aF, .inl (cL, 8, .inr (.inl fF))), (a1, .inr (1, [.int (b2i n1), .int p1, .long f1])), (a2, .inr (1, [.int (b2i n2), .int p2, .long f2])), (a3, .inr (1, [.int (b2i n3), .int p3, .long f3])), (a4, .inr (2, [.long hi, .long lo, .int ex])), (a5, .inr (2, [.long hi2, .long lo2, .int ex2])), (bT, .inl (kT, 8, .inl mT)), (bF, .inl (kF, 8, .inr (.inl mF))), (bN, .inl (kN, 2, .inl (fun k => b2i (mi k)))), (bP, .inl (kP, 2, .inl pw)), (bQ, .inl (kQ, 2, .inr (.inl pt))), (bR, .inl (kR, 33000, .inl (fun k => b2i (rb k)))), (aV, .inl (cV, 1, .inr (.inl fV))), (aO, .inr (0, [.ref aT, .ref aF, .int cw, .int ts, .ref a1, .ref a2, .ref a3, .ref a4, .ref a5]))]) rfl rfl (by decide) (by decide) (fun H locs hP hD hS => ?_)
                have hP : va_P (dC, dI) classes [(aT, .inl (cI, 8, .inl fT)), (aF, .inl (cL, 8, .inr (.inl fF))), (a1, .inr (1, [.int (b2i n1), .int p1, .long f1])), (a2, .inr (1, [.int (b2i n2), .int p2, .long f2])), (a3, .inr (1, [.int (b2i n3), .int p3, .long f3])), (a4, .inr (2, [.long hi, .long lo, .int ex])), (a5, .inr (2, [.long hi2, .long lo2, .int ex2])), (bT, .inl (kT, 8, .inl mT)), (bF, .inl (kF, 8, .inr (.inl mF))), (bN, .inl (kN, 2, .inl (fun k => b2i (mi k)))), (bP, .inl (kP, 2, .inl pw)), (bQ, .inl (kQ, 2, .inr (.inl pt))), (bR, .inl (kR, 33000, .inl (fun k => b2i (rb k)))), (aV, .inl (cV, 1, .inr (.inl fV))), (aO, .inr (0, [.ref aT, .ref aF, .int cw, .int ts, .ref a1, .ref a2, .ref a3, .ref a4, .ref a5])), (bM, .inr (3, [.int 0, .int wd, .ref bT, .ref bF, .int al, .ref bN, .ref bP, .ref bQ, .ref bR, .int sz1, .int un, .int (b2i mo), .int tl, .int (b2i sp), .int tpo, .long fro, .int (b2i ly)]))] H := hP
                have hD : va_D A [(aT, .inl (cI, 8, .inl fT)), (aF, .inl (cL, 8, .inr (.inl fF))), (a1, .inr (1, [.int (b2i n1), .int p1, .long f1])), (a2, .inr (1, [.int (b2i n2), .int p2, .long f2])), (a3, .inr (1, [.int (b2i n3), .int p3, .long f3])), (a4, .inr (2, [.long hi, .long lo, .int ex])), (a5, .inr (2, [.long hi2, .long lo2, .int ex2])), (bT, .inl (kT, 8, .inl mT)), (bF, .inl (kF, 8, .inr (.inl mF))), (bN, .inl (kN, 2, .inl (fun k => b2i (mi k)))), (bP, .inl (kP, 2, .inl pw)), (bQ, .inl (kQ, 2, .inr (.inl pt))), (bR, .inl (kR, 33000, .inl (fun k => b2i (rb k)))), (aV, .inl (cV, 1, .inr (.inl fV))), (aO, .inr (0, [.ref aT, .ref aF, .int cw, .int ts, .ref a1, .ref a2, .ref a3, .ref a4, .ref a5])), (bM, .inr (3, [.int 0, .int wd, .ref bT, .ref bF, .int al, .ref bN, .ref bP, .ref bQ, .ref bR, .int sz1, .int un, .int (b2i mo), .int tl, .int (b2i sp), .int tpo, .long fro, .int (b2i ly)]))] := hD
                refine lv_icmp_eq (tgt := 368) hx hb d_L_law_352 (by decide) (fun c_352 => ?_) (fun c_352 => ?_)
                · skip
                  refine lv_iinc (v := (x4 + 5)) (lv' := [(4, .int (x4 + 5)), (0, .ref b), (1, .ref aO), (2, .ref bM), (3, .ref aV)]) hx hb d_L_law_368 hl (k := 4) rfl rfl (by decide) rfl (fun ls hl => ?_)
                  refine lv_goto (tgt := 23) hx hb d_L_law_371 (by decide) ?_
                  refine W.widen (k := 16 + (i + 5)) (n := 33080 + 6 * (i + 5)) (by omega) (by omega) ?_
                  exact ih (i + 5) hlt (by omega) (x4 + 5) (by rw [ex4]; exact nI_add5 i) cw ts fT fF n1 p1 f1 n2 p2 f2 n3 p3 f3 hi lo ex hi2 lo2 ex2 0 wd al sz1 un mo tl sp tpo fro ly mT mF mi pw pt rb fV (by clear hP hD hl hS; exact hI) cI cL kT kF kN kP kQ kR cV aO aT aF a1 a2 a3 a4 a5 bM bT bF bN bP bQ bR aV H locs hK (hP.sub [14, 0, 1, 2, 3, 4, 5, 6, 15, 7, 8, 9, 10, 11, 12, 13] rfl) (hD.sub [14, 0, 1, 2, 3, 4, 5, 6, 15, 7, 8, 9, 10, 11, 12, 13] (by decide) rfl) hS ls (lv_sub hl [1, 2, 3, 4, 0] rfl)
                · skip
                  exact absurd (by clear hP hD hl hS; exact lp_told hI) c_352
              · skip
                by_cases c_39_5 : ((xs x4.toNatClampNeg) &&& 7) = 5
                · skip
                  refine lv_tableIn (off := 318) (tgt := 357) hx hb d_L_law_39 (by rw [c_39_5]; decide) (by rw [c_39_5]; decide) (by rw [c_39_5]; rfl) (by decide) ?_
                  refine lv_aload_n hx hb d_L_law_357 rfl (lv_at hl 1 rfl) ?_
                  have hPc := hP.sub (ws' := [(aO, .inr (0, [.ref aT, .ref aF, .int cw, .int ts, .ref a1, .ref a2, .ref a3, .ref a4, .ref a5]))]) [0] rfl
                  have hDc := hD.sub (ws' := [(aO, .inr (0, [.ref aT, .ref aF, .int cw, .int ts, .ref a1, .ref a2, .ref a3, .ref a4, .ref a5]))]) [0] (by decide) rfl
                  have hKc := hK.sub (tys' := []) [] rfl
                  have hFc := va_free (wc := [(aO, .inr (0, [.ref aT, .ref aF, .int cw, .int ts, .ref a1, .ref a2, .ref a3, .ref a4, .ref a5]))]) hD hS hA [0] rfl
                  refine cc_v (va_runV (As := []) (rest := []) ⟨hx, hb, hml, hown, htA⟩ (c_O_clear l dC dI aO aT aF a1 a2 a3 a4 a5 H.size cw ts) (cwV 0 htA (gi_V k_431 k_432 k_433 k_90 (gi_code k_103)) rfl rfl rfl (by decide +kernel) ⟨Nat.le_of_ble_eq_true rfl, Nat.le_of_ble_eq_true rfl⟩) (pre_V hnw hPc hKc hDc (ci := 0) (q0 := 0) rfl rfl) rfl rfl hl.1 rfl (lv_room (Nat.le_of_ble_eq_true rfl)) d_L_law_358 ⟨by show _ ≤ (601024 : Nat); omega, by show _ ≤ (7293033 : Nat); omega⟩) hS hFc hP hD [0] [1, 2, 3, 4, 5, 6, 7, 8, 9, 10, 11, 12, 13, 14, 15] (wr := [(aT, .inl (cI, 8, .inl fT)), (aF, .inl (cL, 8, .inr (.inl fF))), (a1, .inr (1, [.int (b2i n1), .int p1, .long f1])), (a2, .inr (1, [.int (b2i n2), .int p2, .long f2])), (a3, .inr (1, [.int (b2i n3), .int p3, .long f3])), (a4, .inr (2, [.long hi, .long lo, .int ex])), (a5, .inr (2, [.long hi2, .long lo2, .int ex2])), (bM, .inr (3, [.int cd, .int wd, .ref bT, .ref bF, .int al, .ref bN, .ref bP, .ref bQ, .ref bR, .int sz1, .int un, .int (b2i mo), .int tl, .int (b2i sp), .int tpo, .long fro, .int (b2i ly)])), (bT, .inl (kT, 8, .inl mT)), (bF, .inl (kF, 8, .inr (.inl mF))), (bN, .inl (kN, 2, .inl (fun k => b2i (mi k)))), (bP, .inl (kP, 2, .inl pw)), (bQ, .inl (kQ, 2, .inr (.inl pt))), (bR, .inl (kR, 33000, .inl (fun k => b2i (rb k)))), (aV, .inl (cV, 1, .inr (.inl fV)))]) rfl rfl (by decide) (by decide) (fun H locs hP hD hS => ?_)
                  have hP : va_P (dC, dI) classes [(aT, .inl (cI, 8, .inl fT)), (aF, .inl (cL, 8, .inr (.inl fF))), (a1, .inr (1, [.int (b2i n1), .int p1, .long f1])), (a2, .inr (1, [.int (b2i n2), .int p2, .long f2])), (a3, .inr (1, [.int (b2i n3), .int p3, .long f3])), (a4, .inr (2, [.long hi, .long lo, .int ex])), (a5, .inr (2, [.long hi2, .long lo2, .int ex2])), (bM, .inr (3, [.int cd, .int wd, .ref bT, .ref bF, .int al, .ref bN, .ref bP, .ref bQ, .ref bR, .int sz1, .int un, .int (b2i mo), .int tl, .int (b2i sp), .int tpo, .long fro, .int (b2i ly)])), (bT, .inl (kT, 8, .inl mT)), (bF, .inl (kF, 8, .inr (.inl mF))), (bN, .inl (kN, 2, .inl (fun k => b2i (mi k)))), (bP, .inl (kP, 2, .inl pw)), (bQ, .inl (kQ, 2, .inr (.inl pt))), (bR, .inl (kR, 33000, .inl (fun k => b2i (rb k)))), (aV, .inl (cV, 1, .inr (.inl fV))), (aO, .inr (0, [.ref aT, .ref aF, .int cw, .int 0, .ref a1, .ref a2, .ref a3, .ref a4, .ref a5]))] H := hP
                  have hD : va_D A [(aT, .inl (cI, 8, .inl fT)), (aF, .inl (cL, 8, .inr (.inl fF))), (a1, .inr (1, [.int (b2i n1), .int p1, .long f1])), (a2, .inr (1, [.int (b2i n2), .int p2, .long f2])), (a3, .inr (1, [.int (b2i n3), .int p3, .long f3])), (a4, .inr (2, [.long hi, .long lo, .int ex])), (a5, .inr (2, [.long hi2, .long lo2, .int ex2])), (bM, .inr (3, [.int cd, .int wd, .ref bT, .ref bF, .int al, .ref bN, .ref bP, .ref bQ, .ref bR, .int sz1, .int un, .int (b2i mo), .int tl, .int (b2i sp), .int tpo, .long fro, .int (b2i ly)])), (bT, .inl (kT, 8, .inl mT)), (bF, .inl (kF, 8, .inr (.inl mF))), (bN, .inl (kN, 2, .inl (fun k => b2i (mi k)))), (bP, .inl (kP, 2, .inl pw)), (bQ, .inl (kQ, 2, .inr (.inl pt))), (bR, .inl (kR, 33000, .inl (fun k => b2i (rb k)))), (aV, .inl (cV, 1, .inr (.inl fV))), (aO, .inr (0, [.ref aT, .ref aF, .int cw, .int 0, .ref a1, .ref a2, .ref a3, .ref a4, .ref a5]))] := hD
                  refine lv_aload_n hx hb d_L_law_361 rfl (lv_at hl 2 rfl) ?_
                  have hPc := hP.sub (ws' := [(bM, .inr (3, [.int cd, .int wd, .ref bT, .ref bF, .int al, .ref bN, .ref bP, .ref bQ, .ref bR, .int sz1, .int un, .int (b2i mo), .int tl, .int (b2i sp), .int tpo, .long fro, .int (b2i ly)]))]) [7] rfl
                  have hDc := hD.sub (ws' := [(bM, .inr (3, [.int cd, .int wd, .ref bT, .ref bF, .int al, .ref bN, .ref bP, .ref bQ, .ref bR, .int sz1, .int un, .int (b2i mo), .int tl, .int (b2i sp), .int tpo, .long fro, .int (b2i ly)]))]) [7] (by decide) rfl
                  have hKc := hK.sub (tys' := []) [] rfl
                  have hFc := va_free (wc := [(bM, .inr (3, [.int cd, .int wd, .ref bT, .ref bF, .int al, .ref bN, .ref bP, .ref bQ, .ref bR, .int sz1, .int un, .int (b2i mo), .int tl, .int (b2i sp), .int tpo, .long fro, .int (b2i ly)]))]) hD hS hA [7] rfl
                  refine cc_v (va_runV (As := []) (rest := []) ⟨hx, hb, hml, hown, htA⟩ (c_M_clear l dC dI bM bT bF bN bP bQ bR H.size cd wd al sz1 un mo tl sp tpo fro ly) (cwV 0 htA (gi_V k_434 k_435 k_436 k_263 (gi_code k_243)) rfl rfl rfl (by decide +kernel) ⟨Nat.le_of_ble_eq_true rfl, Nat.le_of_ble_eq_true rfl⟩) (pre_V hnw hPc hKc hDc (ci := 3) (q0 := 0) rfl rfl) rfl rfl hl.1 rfl (lv_room (Nat.le_of_ble_eq_true rfl)) d_L_law_362 ⟨by show _ ≤ (601024 : Nat); omega, by show _ ≤ (7293033 : Nat); omega⟩) hS hFc hP hD [7] [0, 1, 2, 3, 4, 5, 6, 8, 9, 10, 11, 12, 13, 14, 15] (wr := [(aT, .inl (cI, 8, .inl fT)), (aF, .inl (cL, 8, .inr (.inl fF))), (a1, .inr (1, [.int (b2i n1), .int p1, .long f1])), (a2, .inr (1, [.int (b2i n2), .int p2, .long f2])), (a3, .inr (1, [.int (b2i n3), .int p3, .long f3])), (a4, .inr (2, [.long hi, .long lo, .int ex])), (a5, .inr (2, [.long hi2, .long lo2, .int ex2])), (bT, .inl (kT, 8, .inl mT)), (bF, .inl (kF, 8, .inr (.inl mF))), (bN, .inl (kN, 2, .inl (fun k => b2i (mi k)))), (bP, .inl (kP, 2, .inl pw)), (bQ, .inl (kQ, 2, .inr (.inl pt))), (bR, .inl (kR, 33000, .inl (fun k => b2i (rb k)))), (aV, .inl (cV, 1, .inr (.inl fV))), (aO, .inr (0, [.ref aT, .ref aF, .int cw, .int 0, .ref a1, .ref a2, .ref a3, .ref a4, .ref a5]))]) rfl rfl (by decide) (by decide) (fun H locs hP hD hS => ?_)
                  have hP : va_P (dC, dI) classes [(aT, .inl (cI, 8, .inl fT)), (aF, .inl (cL, 8, .inr (.inl fF))), (a1, .inr (1, [.int (b2i n1), .int p1, .long f1])), (a2, .inr (1, [.int (b2i n2), .int p2, .long f2])), (a3, .inr (1, [.int (b2i n3), .int p3, .long f3])), (a4, .inr (2, [.long hi, .long lo, .int ex])), (a5, .inr (2, [.long hi2, .long lo2, .int ex2])), (bT, .inl (kT, 8, .inl mT)), (bF, .inl (kF, 8, .inr (.inl mF))), (bN, .inl (kN, 2, .inl (fun k => b2i (mi k)))), (bP, .inl (kP, 2, .inl pw)), (bQ, .inl (kQ, 2, .inr (.inl pt))), (bR, .inl (kR, 33000, .inl (fun k => b2i (rb k)))), (aV, .inl (cV, 1, .inr (.inl fV))), (aO, .inr (0, [.ref aT, .ref aF, .int cw, .int 0, .ref a1, .ref a2, .ref a3, .ref a4, .ref a5])), (bM, .inr (3, [.int 0, .int wd, .ref bT, .ref bF, .int 0, .ref bN, .ref bP, .ref bQ, .ref bR, .int sz1, .int un, .int (b2i mo), .int tl, .int (b2i sp), .int tpo, .long fro, .int (b2i ly)]))] H := hP
                  have hD : va_D A [(aT, .inl (cI, 8, .inl fT)), (aF, .inl (cL, 8, .inr (.inl fF))), (a1, .inr (1, [.int (b2i n1), .int p1, .long f1])), (a2, .inr (1, [.int (b2i n2), .int p2, .long f2])), (a3, .inr (1, [.int (b2i n3), .int p3, .long f3])), (a4, .inr (2, [.long hi, .long lo, .int ex])), (a5, .inr (2, [.long hi2, .long lo2, .int ex2])), (bT, .inl (kT, 8, .inl mT)), (bF, .inl (kF, 8, .inr (.inl mF))), (bN, .inl (kN, 2, .inl (fun k => b2i (mi k)))), (bP, .inl (kP, 2, .inl pw)), (bQ, .inl (kQ, 2, .inr (.inl pt))), (bR, .inl (kR, 33000, .inl (fun k => b2i (rb k)))), (aV, .inl (cV, 1, .inr (.inl fV))), (aO, .inr (0, [.ref aT, .ref aF, .int cw, .int 0, .ref a1, .ref a2, .ref a3, .ref a4, .ref a5])), (bM, .inr (3, [.int 0, .int wd, .ref bT, .ref bF, .int 0, .ref bN, .ref bP, .ref bQ, .ref bR, .int sz1, .int un, .int (b2i mo), .int tl, .int (b2i sp), .int tpo, .long fro, .int (b2i ly)]))] := hD
                  refine lv_goto (tgt := 368) hx hb d_L_law_365 (by decide) ?_
                  refine lv_iinc (v := (x4 + 5)) (lv' := [(4, .int (x4 + 5)), (0, .ref b), (1, .ref aO), (2, .ref bM), (3, .ref aV)]) hx hb d_L_law_368 hl (k := 4) rfl rfl (by decide) rfl (fun ls hl => ?_)
                  refine lv_goto (tgt := 23) hx hb d_L_law_371 (by decide) ?_
                  refine W.widen (k := 16 + (i + 5)) (n := 33080 + 6 * (i + 5)) (by omega) (by omega) ?_
                  exact ih (i + 5) hlt (by omega) (x4 + 5) (by rw [ex4]; exact nI_add5 i) cw 0 fT fF n1 p1 f1 n2 p2 f2 n3 p3 f3 hi lo ex hi2 lo2 ex2 0 wd 0 sz1 un mo tl sp tpo fro ly mT mF mi pw pt rb fV (by clear hP hD hl hS; exact lp_clear hI) cI cL kT kF kN kP kQ kR cV aO aT aF a1 a2 a3 a4 a5 bM bT bF bN bP bQ bR aV H locs hK (hP.sub [14, 0, 1, 2, 3, 4, 5, 6, 15, 7, 8, 9, 10, 11, 12, 13] rfl) (hD.sub [14, 0, 1, 2, 3, 4, 5, 6, 15, 7, 8, 9, 10, 11, 12, 13] (by decide) rfl) hS ls (lv_sub hl [1, 2, 3, 4, 0] rfl)
                · skip
                  refine lv_tableOut (tgt := 368) hx hb d_L_law_39 (by have h09 := lv_neT c_39_0 (a := 0) rfl; have h19 := lv_neT c_39_1 (a := 1) rfl; have h29 := lv_neT c_39_2 (a := 2) rfl; have h39 := lv_neT c_39_3 (a := 3) rfl; have h49 := lv_neT c_39_4 (a := 4) rfl; have h59 := lv_neT c_39_5 (a := 5) rfl; omega) (by decide) ?_
                  refine lv_iinc (v := (x4 + 5)) (lv' := [(4, .int (x4 + 5)), (0, .ref b), (1, .ref aO), (2, .ref bM), (3, .ref aV)]) hx hb d_L_law_368 hl (k := 4) rfl rfl (by decide) rfl (fun ls hl => ?_)
                  refine lv_goto (tgt := 23) hx hb d_L_law_371 (by decide) ?_
                  refine W.widen (k := 16 + (i + 5)) (n := 33080 + 6 * (i + 5)) (by omega) (by omega) ?_
                  exact ih (i + 5) hlt (by omega) (x4 + 5) (by rw [ex4]; exact nI_add5 i) cw ts fT fF n1 p1 f1 n2 p2 f2 n3 p3 f3 hi lo ex hi2 lo2 ex2 cd wd al sz1 un mo tl sp tpo fro ly mT mF mi pw pt rb fV (by clear hP hD hl hS; exact hI) cI cL kT kF kN kP kQ kR cV aO aT aF a1 a2 a3 a4 a5 bM bT bF bN bP bQ bR aV H locs hK (hP.sub [0, 1, 2, 3, 4, 5, 6, 7, 8, 9, 10, 11, 12, 13, 14, 15] rfl) (hD.sub [0, 1, 2, 3, 4, 5, 6, 7, 8, 9, 10, 11, 12, 13, 14, 15] (by decide) rfl) hS ls (lv_sub hl [1, 2, 3, 4, 0] rfl)
