/-! the reference's swollen bars -/
/-- p, as it is swollen, is barred by q -/
def sbr (A : dA) (p w q : Nat) : Prop := aBent A p = false ∧ p < aP A ∧ aBent A q = false ∧ q < aP A ∧ q ≠ p ∧ ∃ c, c < 512 ∧ rch A c p ∧ ∃ k, 1 ≤ k ∧ k < 8 ∧ rIn c w k ∧ rch A (rC c w k) q
/-- the straight parts -/
noncomputable def strt (A : dA) : Nat := msk (fun p => p < aP A ∧ aBent A p = false) 9
theorem strt_lt (A : dA) : strt A < 512 := msk_lt _ 9
theorem sw_set {A : dA} {M : xM} (hA : mA M A) (hR : mkI (161, 0) 512 (rch A) M) {c w : Nat} (hc : c < 512) (hw : w < 6) : ∃ s : Nat, s < 512 ∧ (∀ q, s.testBit q = true ↔ ∃ k, 1 ≤ k ∧ k < 8 ∧ rIn c w k ∧ rch A (rC c w k) q) ∧ ∀ st : Nat, xfix gX12_findsSwollen (129, [some (.inr (.inr (12, 0))), some (.inl (iZ st)), some (.inl (iZ c)), some (.inl (iZ w)), some (.inl (iZ 0)), some (.inl (iZ (rX c w 1))), some (.inl (iZ (rY c w 1))), some (.inl (iZ (rZ c w 1))), none], [], M) = xfix gX12_findsSwollen (198, [some (.inr (.inr (12, 0))), some (.inl (iZ st)), some (.inl (iZ c)), some (.inl (iZ w)), some (.inl (iZ s)), none, none, none, some (.inl (iZ 0))], [], M) := by
  have key : ∀ d i s0 : Nat, 1 ≤ i → i + d = 8 → s0 < 512 → ∃ s : Nat, s < 512 ∧ (∀ q, s.testBit q = true ↔ s0.testBit q = true ∨ ∃ k, i ≤ k ∧ k < 8 ∧ rIn c w k ∧ rch A (rC c w k) q) ∧ ∀ st : Nat, xfix gX12_findsSwollen (129, [some (.inr (.inr (12, 0))), some (.inl (iZ st)), some (.inl (iZ c)), some (.inl (iZ w)), some (.inl (iZ s0)), some (.inl (iZ (rX c w i))), some (.inl (iZ (rY c w i))), some (.inl (iZ (rZ c w i))), none], [], M) = xfix gX12_findsSwollen (198, [some (.inr (.inr (12, 0))), some (.inl (iZ st)), some (.inl (iZ c)), some (.inl (iZ w)), some (.inl (iZ s)), none, none, none, some (.inl (iZ 0))], [], M) := by
    intro d
    induction d with
    | zero =>
      intro i s0 h1 h2 h3
      have : i = 8 := by omega
      subst this
      have hr := r_le (k := 8) hc hw (by omega)
      refine ⟨s0, h3, fun q => ⟨.inl, fun z => z.elim id (fun ⟨k, a, b, _⟩ => by omega)⟩, fun st => ?_⟩
      rw [xfix_unf, sX12_findsSwollen_129, m_isCell _ _ _ M (by omega) (by omega) (by omega), xri_v]
      simp (disch := omega) only [xk_none, xk_inl, xk_inr, xk_ite, xri_v, xrl_v, xrv_v, xb_z0, xb_z1, xb_b2, if_true, if_false, ite_true, ite_false, iZ_lit, iZ_m1, iZ_m99, iZ_m8, iZ_add, iZ_sub, iZ_mul, iZ_neg, nz0, nzi, iZ_lt, iZ_le, iZ_inj, b2_z, b2_o, ite_bPz, ite_bPo, xb_bP, iZ_xin, if_pos, ite_self, ↓reduceIte, Int.reduceAdd, Int.reduceSub, Int.reduceMul, Int.reduceNeg, Int.reduceLT, Int.reduceLE]
      rw [if_neg (rIn_8 hc hw)]
    | succ d ih =>
      intro i s0 h1 h2 h3
      have hr := r_le (k := i) hc hw (by omega)
      by_cases e : rIn c w i
      · obtain ⟨b, b1, b2, b3⟩ := hR.at (rC_lt e)
        obtain ⟨s, s1, s2, s3⟩ := ih (i + 1) (s0 ||| b) (by omega) (by omega) (Nat.or_lt_two_pow (n := 9) h3 b2)
        refine ⟨s, s1, fun q => (s2 q).trans ?_, fun st => ?_⟩
        · rw [Nat.testBit_or, Bool.or_eq_true, b3]
          constructor
          · rintro ((a | a) | ⟨k, a, x⟩)
            · exact .inl a
            · exact .inr ⟨i, by omega, by omega, e, a⟩
            · exact .inr ⟨k, by omega, x⟩
          · rintro (a | ⟨k, a, x, y, z⟩)
            · exact .inl (.inl a)
            · by_cases ek : k = i
              · subst ek; exact .inl (.inr z)
              · exact .inr ⟨k, by omega, x, y, z⟩
        · rw [← s3 st, xfix_unf, sX12_findsSwollen_129, m_isCell _ _ _ M (by omega) (by omega) (by omega), xri_v]
          have ecl2 : Int32.toNatClampNeg (iZ (64 * rZ c w i + 8 * rY c w i + rX c w i)) = rC c w i := iZ_clamp (by omega)
          simp (disch := omega) only [xk_none, xk_inl, xk_inr, xk_ite, xri_v, xrl_v, xrv_v, xb_z0, xb_z1, xb_b2, if_true, if_false, ite_true, ite_false, iZ_lit, iZ_m1, iZ_m99, iZ_m8, iZ_add, iZ_sub, iZ_mul, iZ_neg, nz0, nzi, iZ_lt, iZ_le, iZ_inj, b2_z, b2_o, ite_bPz, ite_bPo, xb_bP, iZ_xin, if_pos, ite_self, ↓reduceIte, Int.reduceAdd, Int.reduceSub, Int.reduceMul, Int.reduceNeg, Int.reduceLT, Int.reduceLE, m_stepX M hw, m_stepY M hw, m_stepZ M hw, ecl2, b1, iZ_or]
          rw [(r_S c w i).1, (r_S c w i).2.1, (r_S c w i).2.2]
      · refine ⟨s0, h3, fun q => ⟨.inl, fun z => z.elim id (fun ⟨k, a, b, x, y⟩ => absurd x (rIn_out hc hw a e))⟩, fun st => ?_⟩
        rw [xfix_unf, sX12_findsSwollen_129, m_isCell _ _ _ M (by omega) (by omega) (by omega), xri_v]
        simp (disch := omega) only [xk_none, xk_inl, xk_inr, xk_ite, xri_v, xrl_v, xrv_v, xb_z0, xb_z1, xb_b2, if_true, if_false, ite_true, ite_false, iZ_lit, iZ_m1, iZ_m99, iZ_m8, iZ_add, iZ_sub, iZ_mul, iZ_neg, nz0, nzi, iZ_lt, iZ_le, iZ_inj, b2_z, b2_o, ite_bPz, ite_bPo, xb_bP, iZ_xin, if_pos, ite_self, ↓reduceIte, Int.reduceAdd, Int.reduceSub, Int.reduceMul, Int.reduceNeg, Int.reduceLT, Int.reduceLE]
        rw [if_neg e]
  obtain ⟨s, s1, s2, s3⟩ := key 7 1 0 (by omega) (by omega) (by omega)
  refine ⟨s, s1, fun q => (s2 q).trans ?_, s3⟩
  rw [Nat.zero_testBit]
  simp
theorem iZ_or0 (a : Nat) : iZ (a : Int) ||| iZ 0 = iZ (a : Int) := by
  have := iZ_or a 0
  rw [Nat.or_zero] at this
  exact this
theorem sw_part {A : dA} {M : xM} (hA : mA M A) {R : xM → Prop} (hRs : ∀ M', R M' → mA M' A ∧ mkI (161, 0) 512 (rch A) M') (hRp : ∀ M' k v, R M' → R (xpI M' (160, 0) k v)) {c w s : Nat} (hc : c < 512) (hw : w < 6) (hs : s < 512) {S : Nat → Nat → Prop} (hR : R M) (hI : mkI (160, 0) 54 S M) : ∃ M', xfix gX12_findsSwollen (198, [some (.inr (.inr (12, 0))), some (.inl (iZ (strt A))), some (.inl (iZ c)), some (.inl (iZ w)), some (.inl (iZ s)), none, none, none, some (.inl (iZ 0))], [], M) = xfix gX12_findsSwollen (73, [some (.inr (.inr (12, 0))), some (.inl (iZ (strt A))), some (.inl (iZ c)), some (.inl (iZ (w + 1))), none, none, none, none, none], [], M') ∧ R M' ∧ mkI (160, 0) 54 (fun k q => S k q ∨ (k % 6 = w ∧ rch A c (k / 6) ∧ (strt A).testBit (k / 6) = true ∧ s.testBit q = true ∧ (strt A).testBit q = true ∧ q ≠ k / 6)) M' := by
  have hP := hA.ok.P
  have hst := strt_lt A
  obtain ⟨M2, H1, H2, H3⟩ := xfor_M (sg := gX12_findsSwollen) (st := fun p M => (198, [some (.inr (.inr (12, 0))), some (.inl (iZ (strt A))), some (.inl (iZ c)), some (.inl (iZ w)), some (.inl (iZ s)), none, none, none, some (.inl (iZ p))], [], M)) (I := fun i M' => R M' ∧ mkI (160, 0) 54 (fun k q => S k q ∨ (k / 6 < i ∧ k % 6 = w ∧ rch A c (k / 6) ∧ (strt A).testBit (k / 6) = true ∧ s.testBit q = true ∧ (strt A).testBit q = true ∧ q ≠ k / 6)) M') (n := aP A) (fun p M' hp hI => by
    obtain ⟨hM, hr⟩ := hRs M' hI.1
    obtain ⟨b, b1, b2, b3⟩ := hr.at hc
    have e0 : ¬ (aP A : Int) ≤ p := by omega
    have ecl : Int32.toNatClampNeg (iZ (6 * (p : Int) + w)) = 6 * p + w := by rw [iZ_clamp (by omega)]; omega
    have hbz : ((b &&& strt A) &&& 2 ^ p) < 512 := Nat.lt_of_le_of_lt Nat.and_le_left (Nat.lt_of_le_of_lt Nat.and_le_left b2)
    rw [nS, xfix_unf, sX12_findsSwollen_198]
    simp (disch := omega) only [xk_none, xk_inl, xk_inr, xk_ite, xri_v, xrl_v, xrv_v, xb_z0, xb_z1, xb_b2, if_true, if_false, ite_true, ite_false, iZ_lit, iZ_m1, iZ_m99, iZ_m8, iZ_add, iZ_sub, iZ_mul, iZ_neg, nz0, nzi, iZ_lt, iZ_le, iZ_inj, b2_z, b2_o, ite_bPz, ite_bPo, xb_bP, iZ_xin, if_pos, ite_self, ↓reduceIte, Int.reduceAdd, Int.reduceSub, Int.reduceMul, Int.reduceNeg, Int.reduceLT, Int.reduceLE, if_neg, hM.P.1, iZ_clampN, b1, iZ_and, iZ_one, ecl, iZ_z, iZ_ndn]
    by_cases e1 : ((b &&& strt A) &&& 2 ^ p) = 0
    · rw [if_pos e1]
      have e2 : ¬ (rch A c p ∧ (strt A).testBit p = true) := fun z => by
        rw [fb_bit_nat, Nat.testBit_and, (b3 p).mpr z.1, z.2] at e1
        cases e1
      refine ⟨M', rfl, hI.1, hI.2.cg fun k q hk => ⟨fun z => z.imp id (fun z => ⟨by omega, z.2⟩), fun z => z.imp id (fun z => ⟨?_, z.2⟩)⟩⟩
      by_cases ek : k / 6 = p
      · exact absurd ⟨ek ▸ z.2.2.1, ek ▸ z.2.2.2.1⟩ e2
      · have := z.1; omega
    · rw [if_neg e1]
      have e2 : rch A c p ∧ (strt A).testBit p = true := by
        rw [fb_bit_nat, Nat.testBit_and] at e1
        have := Bool.and_eq_true_iff.mp (ts_nf e1)
        exact ⟨(b3 p).mp this.1, this.2⟩
      refine ⟨_, rfl, hRp _ _ _ hI.1, (hI.2.or (k := 6 * p + w) (m := ndn (s &&& strt A) (2 ^ p)) (by omega) (Nat.lt_of_le_of_lt (ndn_le _ _) (Nat.lt_of_le_of_lt Nat.and_le_left hs))).cg fun k q hk => ?_⟩
      rw [ndn_bit, Nat.testBit_and, Nat.testBit_two_pow]
      constructor
      · rintro ((a | a) | ⟨a, x⟩)
        · exact .inl a
        · exact .inr ⟨by omega, a.2⟩
        · simp at x
          have ek : k / 6 = p := by omega
          exact .inr ⟨by omega, by omega, by rw [ek]; exact e2.1, by rw [ek]; exact e2.2, x.1.1, x.1.2, by rw [ek]; exact fun z => x.2 z.symm⟩
      · rintro (a | ⟨a, x1, x2, x3, x4, x5, x6⟩)
        · exact .inl (.inl a)
        · by_cases ek : k / 6 = p
          · refine .inr ⟨by omega, ?_⟩
            rw [ek] at x6
            simp [x4, x5]
            exact fun z => x6 z.symm
          · exact .inl (.inr ⟨by omega, x1, x2, x3, x4, x5, x6⟩)) (a := 0) (M := M) (by omega) ⟨hR, hI.cg fun k q hk => ⟨.inl, fun z => z.elim id (fun z => by omega)⟩⟩
  obtain ⟨hM, hr⟩ := hRs M2 H2
  refine ⟨M2, H1.trans ?_, H2, H3.cg fun k q hk => ⟨fun z => z.imp id (fun z => z.2), fun z => z.imp id (fun z => ⟨?_, z⟩)⟩⟩
  · rw [xfix_unf, sX12_findsSwollen_198]
    simp (disch := omega) only [xk_none, xk_inl, xk_inr, xk_ite, xri_v, xrl_v, xrv_v, xb_z0, xb_z1, xb_b2, if_true, if_false, ite_true, ite_false, iZ_lit, iZ_m1, iZ_m99, iZ_m8, iZ_add, iZ_sub, iZ_mul, iZ_neg, nz0, nzi, iZ_lt, iZ_le, iZ_inj, b2_z, b2_o, ite_bPz, ite_bPo, xb_bP, iZ_xin, if_pos, ite_self, ↓reduceIte, Int.reduceAdd, Int.reduceSub, Int.reduceMul, Int.reduceNeg, Int.reduceLT, Int.reduceLE, hM.P.1]
  · have := (msk_bit _ 9 _).mp z.2.2.1
    exact this.2.1
/-- what a cell adds -/
def sadd (A : dA) (c k q : Nat) : Prop := rch A c (k / 6) ∧ (strt A).testBit (k / 6) = true ∧ (∃ j, 1 ≤ j ∧ j < 8 ∧ rIn c (k % 6) j ∧ rch A (rC c (k % 6) j) q) ∧ (strt A).testBit q = true ∧ q ≠ k / 6
theorem sw_cell {A : dA} {M : xM} {R : xM → Prop} (hRs : ∀ M', R M' → mA M' A ∧ mkI (161, 0) 512 (rch A) M') (hRp : ∀ M' k v, R M' → R (xpI M' (160, 0) k v)) {c : Nat} (hc : c < 512) {S : Nat → Nat → Prop} (hR : R M) (hI : mkI (160, 0) 54 S M) : ∃ M', xfix gX12_findsSwollen (73, [some (.inr (.inr (12, 0))), some (.inl (iZ (strt A))), some (.inl (iZ c)), some (.inl (iZ 0)), none, none, none, none, none], [], M) = xfix gX12_findsSwollen (64, [some (.inr (.inr (12, 0))), some (.inl (iZ (strt A))), some (.inl (iZ (c + 1))), none, none, none, none, none, none], [], M') ∧ R M' ∧ mkI (160, 0) 54 (fun k q => S k q ∨ sadd A c k q) M' := by
  have hst := strt_lt A
  obtain ⟨hM0, hr0⟩ := hRs M hR
  obtain ⟨b, b1, b2, b3⟩ := hr0.at hc
  have hbz : (b &&& strt A) < 512 := Nat.lt_of_le_of_lt Nat.and_le_left b2
  by_cases e : (b &&& strt A) = 0
  · refine ⟨M, ?_, hR, hI.cg fun k q hk => ⟨.inl, fun z => z.elim id (fun z => ?_)⟩⟩
    · rw [xfix_unf, sX12_findsSwollen_73]
      simp (disch := omega) only [xk_none, xk_inl, xk_inr, xk_ite, xri_v, xrl_v, xrv_v, xb_z0, xb_z1, xb_b2, if_true, if_false, ite_true, ite_false, iZ_lit, iZ_m1, iZ_m99, iZ_m8, iZ_add, iZ_sub, iZ_mul, iZ_neg, nz0, nzi, iZ_lt, iZ_le, iZ_inj, b2_z, b2_o, ite_bPz, ite_bPo, xb_bP, iZ_xin, if_pos, ite_self, ↓reduceIte, Int.reduceAdd, Int.reduceSub, Int.reduceMul, Int.reduceNeg, Int.reduceLT, Int.reduceLE, if_neg, iZ_clampN, b1, iZ_and, iZ_z, e]
    · have h1 : (b &&& strt A).testBit (k / 6) = true := by rw [Nat.testBit_and, (b3 _).mpr z.1, z.2.1]; rfl
      rw [e, Nat.zero_testBit] at h1
      cases h1
  · obtain ⟨M2, H1, H2, H3⟩ := xfor_M (sg := gX12_findsSwollen) (st := fun w M => (73, [some (.inr (.inr (12, 0))), some (.inl (iZ (strt A))), some (.inl (iZ c)), some (.inl (iZ w)), none, none, none, none, none], [], M)) (I := fun i M' => R M' ∧ mkI (160, 0) 54 (fun k q => S k q ∨ (k % 6 < i ∧ sadd A c k q)) M') (n := 6) (fun w M' hw hI => by
      obtain ⟨hM, hr⟩ := hRs M' hI.1
      obtain ⟨b', c1, c2, c3⟩ := hr.at hc
      have eb : b' = b := Nat.eq_of_testBit_eq fun i => by
        have h1 := c3 i
        have h2 := b3 i
        cases x : b'.testBit i <;> cases y : b.testBit i <;> simp_all
      rw [eb] at c1
      obtain ⟨s, s1, s2, s3⟩ := sw_set hM hr hc hw
      obtain ⟨M2, g1, g2, g3⟩ := sw_part hM hRs hRp hc hw s1 hI.1 hI.2
      refine ⟨M2, ?_, g2, g3.cg fun k q hk => ⟨?_, ?_⟩⟩
      · rw [nS, ← g1, ← s3, xfix_unf, sX12_findsSwollen_73]
        simp (disch := omega) only [xk_none, xk_inl, xk_inr, xk_ite, xri_v, xrl_v, xrv_v, xb_z0, xb_z1, xb_b2, if_true, if_false, ite_true, ite_false, iZ_lit, iZ_m1, iZ_m99, iZ_m8, iZ_add, iZ_sub, iZ_mul, iZ_neg, nz0, nzi, iZ_lt, iZ_le, iZ_inj, b2_z, b2_o, ite_bPz, ite_bPo, xb_bP, iZ_xin, if_pos, ite_self, ↓reduceIte, Int.reduceAdd, Int.reduceSub, Int.reduceMul, Int.reduceNeg, Int.reduceLT, Int.reduceLE, if_neg, iZ_clampN, c1, iZ_and, iZ_z, e, m_stepX M' hw, m_stepY M' hw, m_stepZ M' hw, iZ_div, Int.ediv_nonneg]
        rw [(r_1 c w).1, (r_1 c w).2.1, (r_1 c w).2.2]
      · rintro ((a | a) | ⟨a, x1, x2, x3, x4, x5⟩)
        · exact .inl a
        · exact .inr ⟨by omega, a.2⟩
        · subst a
          exact .inr ⟨by omega, x1, x2, (s2 q).mp x3, x4, x5⟩
      · rintro (a | ⟨a, x1, x2, x3, x4, x5⟩)
        · exact .inl (.inl a)
        · by_cases ew : k % 6 = w
          · subst ew
            exact .inr ⟨rfl, x1, x2, (s2 q).mpr x3, x4, x5⟩
          · exact .inl (.inr ⟨by omega, x1, x2, x3, x4, x5⟩)) (a := 0) (M := M) (by omega) ⟨hR, hI.cg fun k q hk => ⟨.inl, fun z => z.elim id (fun z => by omega)⟩⟩
    refine ⟨M2, H1.trans ?_, H2, H3.cg fun k q hk => ⟨fun z => z.imp id (fun z => z.2), fun z => z.imp id (fun z => ⟨by omega, z⟩)⟩⟩
    rw [xfix_unf, sX12_findsSwollen_73]
    simp (disch := omega) only [xk_none, xk_inl, xk_inr, xk_ite, xri_v, xrl_v, xrv_v, xb_z0, xb_z1, xb_b2, if_true, if_false, ite_true, ite_false, iZ_lit, iZ_m1, iZ_m99, iZ_m8, iZ_add, iZ_sub, iZ_mul, iZ_neg, nz0, nzi, iZ_lt, iZ_le, iZ_inj, b2_z, b2_o, ite_bPz, ite_bPo, xb_bP, iZ_xin, if_pos, ite_self, ↓reduceIte, Int.reduceAdd, Int.reduceSub, Int.reduceMul, Int.reduceNeg, Int.reduceLT, Int.reduceLE]
/-- the rows of the swollen bars as they must be -/
noncomputable def sbrS (A : dA) (k : Nat) : Nat := msk (fun q => ∃ c, c < 512 ∧ sadd A c k q) 9
def mSB (M : xM) (B : Nat → Nat) : Prop := (∀ k, k < 54 → xI M (160, 0) k = iZ (B k)) ∧ ∀ k, B k < 512
theorem m_findsSwollen {A : dA} {M : xM} (h : mA M A) : ∃ M', fX12_findsSwollen [.inr (.inr (12, 0))] M = some (none, M') ∧ xSame (fun r => r = (160, 0) ∨ r = (161, 0)) M M' ∧ mSB M' (sbrS A) := by
  obtain ⟨M1, a1, a2, a3⟩ := m_swells h
  have hP := h.ok.P
  have hst := strt_lt A
  have hM1 : mA M1 A := h.same a2 (by decide) (by decide) (by decide) (by decide) (by decide) (by decide) (by decide) (by decide) (by decide)
  have h0 : fX12_findsSwollen [.inr (.inr (12, 0))] M = xfix gX12_findsSwollen (8, [some (.inr (.inr (12, 0))), some (.inl (iZ 0)), some (.inl (iZ 0)), none, none, none, none, none, none], [], M1) := by
    show xfix gX12_findsSwollen (0, [some (.inr (.inr (12, 0))), none, none, none, none, none, none, none, none], [], M) = _
    rw [xfix_unf, sX12_findsSwollen_0, a1]
    simp (disch := omega) only [xk_none, xk_inl, xk_inr, xk_ite, xri_v, xrl_v, xrv_v, xb_z0, xb_z1, xb_b2, if_true, if_false, ite_true, ite_false, iZ_lit, iZ_m1, iZ_m99, iZ_m8, iZ_add, iZ_sub, iZ_mul, iZ_neg, nz0, nzi, iZ_lt, iZ_le, iZ_inj, b2_z, b2_o, ite_bPz, ite_bPo, xb_bP, iZ_xin, if_pos, ite_self, ↓reduceIte, Int.reduceAdd, Int.reduceSub, Int.reduceMul, Int.reduceNeg, Int.reduceLT, Int.reduceLE]
  have h1 := xfor_up (sg := gX12_findsSwollen) (fun i => (8, [some (.inr (.inr (12, 0))), some (.inl (iZ (msk (fun p => p < aP A ∧ aBent A p = false) i))), some (.inl (iZ i)), none, none, none, none, none, none], [], M1)) (a := 0) (n := aP A) (by omega) (fun i _ hi => by
    rw [sX12_findsSwollen_8, nS]
    have e0 : ¬ (aP A : Int) ≤ i := by omega
    simp (disch := omega) only [xk_none, xk_inl, xk_inr, xk_ite, xri_v, xrl_v, xrv_v, xb_z0, xb_z1, xb_b2, if_true, if_false, ite_true, ite_false, iZ_lit, iZ_m1, iZ_m99, iZ_m8, iZ_add, iZ_sub, iZ_mul, iZ_neg, nz0, nzi, iZ_lt, iZ_le, iZ_inj, b2_z, b2_o, ite_bPz, ite_bPo, xb_bP, iZ_xin, if_pos, ite_self, ↓reduceIte, Int.reduceAdd, Int.reduceSub, Int.reduceMul, Int.reduceNeg, Int.reduceLT, Int.reduceLE, if_neg, hM1.P.1, iZ_clampN, hM1.bent (p := i) (by omega), iZ_one, iZ_or, iZ_or0]
    rw [show msk (fun p => p < aP A ∧ aBent A p = false) (i + 1) = msk (fun p => p < aP A ∧ aBent A p = false) i ||| @ite _ (i < aP A ∧ aBent A i = false) (Classical.propDecidable _) (2 ^ i) 0 from rfl]
    by_cases e : aBent A i = true
    · rw [if_pos e, if_neg (fun z => by rw [e] at z; cases z.2), Nat.or_zero]
    · rw [if_neg e, if_pos ⟨hi, Bool.eq_false_iff.mpr e⟩])
  have hmk : msk (fun p => p < aP A ∧ aBent A p = false) (aP A) = strt A := msk_ext (Nat.lt_of_lt_of_le (msk_lt _ _) (Nat.pow_le_pow_right (by decide) hP)) (fun i hi => by rw [msk_bit]; exact ⟨fun z => z.2, fun z => ⟨z.1, z⟩⟩)
  have h2 : xfix gX12_findsSwollen (8, [some (.inr (.inr (12, 0))), some (.inl (iZ (msk (fun p => p < aP A ∧ aBent A p = false) (aP A)))), some (.inl (iZ (aP A))), none, none, none, none, none, none], [], M1) = xfix gX12_findsSwollen (43, [some (.inr (.inr (12, 0))), some (.inl (iZ (strt A))), some (.inl (iZ ((0 : Nat) : Int))), none, none, none, none, none, none], [], M1) := by
    rw [hmk, xfix_unf, sX12_findsSwollen_8]
    simp (disch := omega) only [xk_none, xk_inl, xk_inr, xk_ite, xri_v, xrl_v, xrv_v, xb_z0, xb_z1, xb_b2, if_true, if_false, ite_true, ite_false, iZ_lit, iZ_m1, iZ_m99, iZ_m8, iZ_add, iZ_sub, iZ_mul, iZ_neg, nz0, nzi, iZ_lt, iZ_le, iZ_inj, b2_z, b2_o, ite_bPz, ite_bPo, xb_bP, iZ_xin, if_pos, ite_self, ↓reduceIte, Int.reduceAdd, Int.reduceSub, Int.reduceMul, Int.reduceNeg, Int.reduceLT, Int.reduceLE, hM1.P.1]
    rfl
  obtain ⟨M2, b1, b2, b3⟩ := xfor_M (sg := gX12_findsSwollen) (st := fun k M => (43, [some (.inr (.inr (12, 0))), some (.inl (iZ (strt A))), some (.inl (iZ k)), none, none, none, none, none, none], [], M)) (I := fun i M' => xSame (fun r => r = (160, 0)) M1 M' ∧ ∀ k, k < i → xI M' (160, 0) k = iZ 0) (n := 54) (fun i M' hi hI => by
    refine ⟨xpI M' (160, 0) i (iZ 0), ?_, hI.1.pI rfl, fun k hk => ?_⟩
    · rw [xfix_unf, sX12_findsSwollen_43, nS]
      simp (disch := omega) only [xk_none, xk_inl, xk_inr, xk_ite, xri_v, xrl_v, xrv_v, xb_z0, xb_z1, xb_b2, if_true, if_false, ite_true, ite_false, iZ_lit, iZ_m1, iZ_m99, iZ_m8, iZ_add, iZ_sub, iZ_mul, iZ_neg, nz0, nzi, iZ_lt, iZ_le, iZ_inj, b2_z, b2_o, ite_bPz, ite_bPo, xb_bP, iZ_xin, if_pos, ite_self, ↓reduceIte, Int.reduceAdd, Int.reduceSub, Int.reduceMul, Int.reduceNeg, Int.reduceLT, Int.reduceLE, if_neg, iZ_clampN]
    · rw [xI_pI]
      by_cases e : k = i
      · rw [if_pos ⟨rfl, e⟩]
      · rw [if_neg (fun z => e z.2)]; exact hI.2 k (by omega)) (a := 0) (M := M1) (by omega) ⟨xSame.rf, fun k hk => by omega⟩
  have h3 : xfix gX12_findsSwollen (43, [some (.inr (.inr (12, 0))), some (.inl (iZ (strt A))), some (.inl (iZ ((54 : Nat) : Int))), none, none, none, none, none, none], [], M2) = xfix gX12_findsSwollen (64, [some (.inr (.inr (12, 0))), some (.inl (iZ (strt A))), some (.inl (iZ ((0 : Nat) : Int))), none, none, none, none, none, none], [], M2) := by
    rw [xfix_unf, sX12_findsSwollen_43]
    simp (disch := omega) only [xk_none, xk_inl, xk_inr, xk_ite, xri_v, xrl_v, xrv_v, xb_z0, xb_z1, xb_b2, if_true, if_false, ite_true, ite_false, iZ_lit, iZ_m1, iZ_m99, iZ_m8, iZ_add, iZ_sub, iZ_mul, iZ_neg, nz0, nzi, iZ_lt, iZ_le, iZ_inj, b2_z, b2_o, ite_bPz, ite_bPo, xb_bP, iZ_xin, if_pos, ite_self, ↓reduceIte, Int.reduceAdd, Int.reduceSub, Int.reduceMul, Int.reduceNeg, Int.reduceLT, Int.reduceLE]
    rfl
  have hRs : ∀ M', xSame (fun r => r = (160, 0)) M1 M' → mA M' A ∧ mkI (161, 0) 512 (rch A) M' := fun M' hs => ⟨hM1.same hs (by decide) (by decide) (by decide) (by decide) (by decide) (by decide) (by decide) (by decide) (by decide), a3.same hs (by decide)⟩
  have hRp : ∀ M' k v, xSame (fun r => r = (160, 0)) M1 M' → xSame (fun r => r = (160, 0)) M1 (xpI M' (160, 0) k v) := fun M' k v hs => hs.pI rfl
  obtain ⟨M3, c1, c2, c3⟩ := xfor_M (sg := gX12_findsSwollen) (st := fun c M => (64, [some (.inr (.inr (12, 0))), some (.inl (iZ (strt A))), some (.inl (iZ c)), none, none, none, none, none, none], [], M)) (I := fun i M' => xSame (fun r => r = (160, 0)) M1 M' ∧ mkI (160, 0) 54 (fun k q => ∃ c, c < i ∧ sadd A c k q) M') (n := 512) (fun c M' hc hI => by
    obtain ⟨M'', g1, g2, g3⟩ := sw_cell hRs hRp hc hI.1 hI.2
    refine ⟨M'', ?_, g2, g3.cg fun k q _ => ⟨?_, ?_⟩⟩
    · rw [nS, ← g1, xfix_unf, sX12_findsSwollen_64]
      simp (disch := omega) only [xk_none, xk_inl, xk_inr, xk_ite, xri_v, xrl_v, xrv_v, xb_z0, xb_z1, xb_b2, if_true, if_false, ite_true, ite_false, iZ_lit, iZ_m1, iZ_m99, iZ_m8, iZ_add, iZ_sub, iZ_mul, iZ_neg, nz0, nzi, iZ_lt, iZ_le, iZ_inj, b2_z, b2_o, ite_bPz, ite_bPo, xb_bP, iZ_xin, if_pos, ite_self, ↓reduceIte, Int.reduceAdd, Int.reduceSub, Int.reduceMul, Int.reduceNeg, Int.reduceLT, Int.reduceLE, if_neg]
    · rintro (⟨c', a, b⟩ | a)
      · exact ⟨c', by omega, b⟩
      · exact ⟨c, by omega, a⟩
    · rintro ⟨c', a, b⟩
      by_cases e : c' = c
      · subst e; exact .inr b
      · exact .inl ⟨c', by omega, b⟩) (a := 0) (M := M2) (by omega) ⟨b2, fun _ => 0, fun k hk => b3 k hk, fun k => by show 0 < 512; decide, fun k q _ => by simp⟩
  refine ⟨M3, h0.trans (h1.trans (h2.trans (b1.trans (h3.trans (c1.trans ?_))))), (a2.wk fun r hr => .inr hr).tr (c2.wk fun r hr => .inl hr), ?_⟩
  · rw [xfix_unf, sX12_findsSwollen_64]
    simp (disch := omega) only [xk_none, xk_inl, xk_inr, xk_ite, xri_v, xrl_v, xrv_v, xb_z0, xb_z1, xb_b2, if_true, if_false, ite_true, ite_false, iZ_lit, iZ_m1, iZ_m99, iZ_m8, iZ_add, iZ_sub, iZ_mul, iZ_neg, nz0, nzi, iZ_lt, iZ_le, iZ_inj, b2_z, b2_o, ite_bPz, ite_bPo, xb_bP, iZ_xin, if_pos, ite_self, ↓reduceIte, Int.reduceAdd, Int.reduceSub, Int.reduceMul, Int.reduceNeg, Int.reduceLT, Int.reduceLE]
  · obtain ⟨B, d1, d2, d3⟩ := c3
    refine ⟨fun k hk => ?_, fun k => msk_lt _ 9⟩
    rw [d1 k hk]
    have : B k = sbrS A k := msk_ext (d2 k) (fun q hq => d3 k q hk)
    rw [this]
