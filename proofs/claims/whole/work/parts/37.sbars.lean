/-! the reference's swollen bars -/
/-- p, as it is swollen, is barred by q -/
def sbr (A : dA) (p w q : Nat) : Prop := aBent A p = false ∧ p < aP A ∧ aBent A q = false ∧ q < aP A ∧ q ≠ p ∧ ∃ c, c < 512 ∧ rch A c p ∧ ∃ k, 1 ≤ k ∧ k < 8 ∧ rIn c w k ∧ rch A (rC c w k) q
/-- the straight parts -/
noncomputable def strt (A : dA) : Nat := msk (fun p => p < aP A ∧ aBent A p = false) 9
theorem strt_lt (A : dA) : strt A < 512 := msk_lt _ 9
theorem sw_set {A : dA} {M : xM} (hA : mA M A) (hR : mkI (161, 0) 512 (rch A) M) {c w : Nat} (hc : c < 512) (hw : w < 6) : ∃ s : Nat, s < 512 ∧ (∀ q, s.testBit q = true ↔ ∃ k, 1 ≤ k ∧ k < 8 ∧ rIn c w k ∧ rch A (rC c w k) q) ∧ ∀ st : Nat, xfix gX12_findsSwollen (129, [some (.inr (.inr (12, 0))), some (.inl (iZ st)), some (.inl (iZ c)), some (.inl (iZ w)), some (.inl (iZ 0)), some (.inl (iZ (rX c w 1))), some (.inl (iZ (rY c w 1))), some (.inl (iZ (rZ c w 1))), none], [], M) = xfix gX12_findsSwollen (198, [some (.inr (.inr (12, 0))), some (.inl (iZ st)), some (.inl (iZ c)), some (.inl (iZ w)), some (.inl (iZ s)), none, none, none, some (.inl (iZ 0))], [], M) := by
  have key : ∀ d i s0 : Nat, 1 ≤ i → i + d = 8 → s0 < 512 → ∃ s : Nat, s < 512 ∧ (∀ q, s.testBit q = true ↔ s0.testBit q = true ∨ ∃ k, i ≤ k ∧ k < 8 ∧ rIn c w k ∧ rch A (rC c w k) q) ∧ ∀ st : Nat, xfix gX12_findsSwollen (129, [some (.inr (.inr (12, 0))), some (.inl (iZ st)), some (.inl (iZ c)), some (.inl (iZ w)), some (.inl (iZ s0)), some (.inl (iZ (rX c w i))), some (.inl (iZ (rY c w i))), some (.inl (iZ (rZ c w i))), none], [], M) = xfix gX12_findsSwollen (198, [some (.inr (.inr (12, 0))), some (.inl (iZ st)), some (.inl (iZ c)), some (.inl (iZ w)), some (.inl (iZ s)), none, none, none, some (.inl (iZ 0))], [], M) := by
    intro d
    induction d with
    | zero =>
      intro i s0 h1 h2 h3
      have : i = 8 := by omega
      subst this
      have hr := r_le (k := 8) hc hw (by omega)
      refine ⟨s0, h3, fun q => ⟨.inl, fun z => z.elim id (fun ⟨k, a, b, _⟩ => by omega)⟩, fun st => ?_⟩
      rw [xfix_unf, sX12_findsSwollen_129, m_isCell _ _ _ M (by omega) (by omega) (by omega), xri_v]
      simp (disch := omega) only [xk_none, xk_inl, xk_inr, xk_ite, xri_v, xrl_v, xrv_v, xb_z0, xb_z1, xb_b2, if_true, if_false, ite_true, ite_false, iZ_lit, iZ_m1, iZ_m99, iZ_m8, iZ_add, iZ_sub, iZ_mul, iZ_neg, nz0, nzi, iZ_lt, iZ_le, iZ_inj, b2_z, b2_o, ite_bPz, ite_bPo, xb_bP, iZ_xin, if_pos, ite_self, ↓reduceIte, Int.reduceAdd, Int.reduceSub, Int.reduceMul, Int.reduceNeg, Int.reduceLT, Int.reduceLE]
      rw [if_neg (rIn_8 hc hw)]
    | succ d ih =>
      intro i s0 h1 h2 h3
      have hr := r_le (k := i) hc hw (by omega)
      by_cases e : rIn c w i
      · obtain ⟨b, b1, b2, b3⟩ := hR.at (rC_lt e)
        obtain ⟨s, s1, s2, s3⟩ := ih (i + 1) (s0 ||| b) (by omega) (by omega) (Nat.or_lt_two_pow (n := 9) h3 b2)
        refine ⟨s, s1, fun q => (s2 q).trans ?_, fun st => ?_⟩
        · rw [Nat.testBit_or, Bool.or_eq_true, b3]
          constructor
          · rintro ((a | a) | ⟨k, a, x⟩)
            · exact .inl a
            · exact .inr ⟨i, by omega, by omega, e, a⟩
            · exact .inr ⟨k, by omega, x⟩
          · rintro (a | ⟨k, a, x, y, z⟩)
            · exact .inl (.inl a)
            · by_cases ek : k = i
              · subst ek; exact .inl (.inr z)
              · exact .inr ⟨k, by omega, x, y, z⟩
        · rw [← s3 st, xfix_unf, sX12_findsSwollen_129, m_isCell _ _ _ M (by omega) (by omega) (by omega), xri_v]
          have ecl2 : Int32.toNatClampNeg (iZ (64 * rZ c w i + 8 * rY c w i + rX c w i)) = rC c w i := iZ_clamp (by omega)
          simp (disch := omega) only [xk_none, xk_inl, xk_inr, xk_ite, xri_v, xrl_v, xrv_v, xb_z0, xb_z1, xb_b2, if_true, if_false, ite_true, ite_false, iZ_lit, iZ_m1, iZ_m99, iZ_m8, iZ_add, iZ_sub, iZ_mul, iZ_neg, nz0, nzi, iZ_lt, iZ_le, iZ_inj, b2_z, b2_o, ite_bPz, ite_bPo, xb_bP, iZ_xin, if_pos, ite_self, ↓reduceIte, Int.reduceAdd, Int.reduceSub, Int.reduceMul, Int.reduceNeg, Int.reduceLT, Int.reduceLE, m_stepX M hw, m_stepY M hw, m_stepZ M hw, ecl2, b1, iZ_or]
          rw [(r_S c w i).1, (r_S c w i).2.1, (r_S c w i).2.2]
      · refine ⟨s0, h3, fun q => ⟨.inl, fun z => z.elim id (fun ⟨k, a, b, x, y⟩ => absurd x (rIn_out hc hw a e))⟩, fun st => ?_⟩
        rw [xfix_unf, sX12_findsSwollen_129, m_isCell _ _ _ M (by omega) (by omega) (by omega), xri_v]
        simp (disch := omega) only [xk_none, xk_inl, xk_inr, xk_ite, xri_v, xrl_v, xrv_v, xb_z0, xb_z1, xb_b2, if_true, if_false, ite_true, ite_false, iZ_lit, iZ_m1, iZ_m99, iZ_m8, iZ_add, iZ_sub, iZ_mul, iZ_neg, nz0, nzi, iZ_lt, iZ_le, iZ_inj, b2_z, b2_o, ite_bPz, ite_bPo, xb_bP, iZ_xin, if_pos, ite_self, ↓reduceIte, Int.reduceAdd, Int.reduceSub, Int.reduceMul, Int.reduceNeg, Int.reduceLT, Int.reduceLE]
        rw [if_neg e]
  obtain ⟨s, s1, s2, s3⟩ := key 7 1 0 (by omega) (by omega) (by omega)
  refine ⟨s, s1, fun q => (s2 q).trans ?_, s3⟩
  rw [Nat.zero_testBit]
  simp
theorem iZ_or0 (a : Nat) : iZ (a : Int) ||| iZ 0 = iZ (a : Int) := by
  have := iZ_or a 0
  rw [Nat.or_zero] at this
  exact this
theorem sw_part {A : dA} {M : xM} (hA : mA M A) {R : xM → Prop} (hRs : ∀ M', R M' → mA M' A ∧ mkI (161, 0) 512 (rch A) M') (hRp : ∀ M' k v, R M' → R (xpI M' (160, 0) k v)) {c w s : Nat} (hc : c < 512) (hw : w < 6) (hs : s < 512) {S : Nat → Nat → Prop} (hR : R M) (hI : mkI (160, 0) 54 S M) : ∃ M', xfix gX12_findsSwollen (198, [some (.inr (.inr (12, 0))), some (.inl (iZ (strt A))), some (.inl (iZ c)), some (.inl (iZ w)), some (.inl (iZ s)), none, none, none, some (.inl (iZ 0))], [], M) = xfix gX12_findsSwollen (73, [some (.inr (.inr (12, 0))), some (.inl (iZ (strt A))), some (.inl (iZ c)), some (.inl (iZ (w + 1))), none, none, none, none, none], [], M') ∧ R M' ∧ mkI (160, 0) 54 (fun k q => S k q ∨ (k % 6 = w ∧ rch A c (k / 6) ∧ (strt A).testBit (k / 6) = true ∧ s.testBit q = true ∧ (strt A).testBit q = true ∧ q ≠ k / 6)) M' := by
  have hP := hA.ok.P
  have hst := strt_lt A
  obtain ⟨M2, H1, H2, H3⟩ := xfor_M (sg := gX12_findsSwollen) (st := fun p M => (198, [some (.inr (.inr (12, 0))), some (.inl (iZ (strt A))), some (.inl (iZ c)), some (.inl (iZ w)), some (.inl (iZ s)), none, none, none, some (.inl (iZ p))], [], M)) (I := fun i M' => R M' ∧ mkI (160, 0) 54 (fun k q => S k q ∨ (k / 6 < i ∧ k % 6 = w ∧ rch A c (k / 6) ∧ (strt A).testBit (k / 6) = true ∧ s.testBit q = true ∧ (strt A).testBit q = true ∧ q ≠ k / 6)) M') (n := aP A) (fun p M' hp hI => by
    obtain ⟨hM, hr⟩ := hRs M' hI.1
    obtain ⟨b, b1, b2, b3⟩ := hr.at hc
    have e0 : ¬ (aP A : Int) ≤ p := by omega
    have ecl : Int32.toNatClampNeg (iZ (6 * (p : Int) + w)) = 6 * p + w := by rw [iZ_clamp (by omega)]; omega
    have hbz : ((b &&& strt A) &&& 2 ^ p) < 512 := Nat.lt_of_le_of_lt Nat.and_le_left (Nat.lt_of_le_of_lt Nat.and_le_left b2)
    rw [nS, xfix_unf, sX12_findsSwollen_198]
    simp (disch := omega) only [xk_none, xk_inl, xk_inr, xk_ite, xri_v, xrl_v, xrv_v, xb_z0, xb_z1, xb_b2, if_true, if_false, ite_true, ite_false, iZ_lit, iZ_m1, iZ_m99, iZ_m8, iZ_add, iZ_sub, iZ_mul, iZ_neg, nz0, nzi, iZ_lt, iZ_le, iZ_inj, b2_z, b2_o, ite_bPz, ite_bPo, xb_bP, iZ_xin, if_pos, ite_self, ↓reduceIte, Int.reduceAdd, Int.reduceSub, Int.reduceMul, Int.reduceNeg, Int.reduceLT, Int.reduceLE, if_neg, hM.P.1, iZ_clampN, b1, iZ_and, iZ_one, ecl, iZ_z, iZ_ndn]
    by_cases e1 : ((b &&& strt A) &&& 2 ^ p) = 0
    · rw [if_pos e1]
      have e2 : ¬ (rch A c p ∧ (strt A).testBit p = true) := fun z => by
        rw [fb_bit_nat, Nat.testBit_and, (b3 p).mpr z.1, z.2] at e1
        cases e1
      refine ⟨M', rfl, hI.1, hI.2.cg fun k q hk => ⟨fun z => z.imp id (fun z => ⟨by omega, z.2⟩), fun z => z.imp id (fun z => ⟨?_, z.2⟩)⟩⟩
      by_cases ek : k / 6 = p
      · exact absurd ⟨ek ▸ z.2.2.1, ek ▸ z.2.2.2.1⟩ e2
      · have := z.1; omega
    · rw [if_neg e1]
      have e2 : rch A c p ∧ (strt A).testBit p = true := by
        rw [fb_bit_nat, Nat.testBit_and] at e1
        have := Bool.and_eq_true_iff.mp (ts_nf e1)
        exact ⟨(b3 p).mp this.1, this.2⟩
      refine ⟨_, rfl, hRp _ _ _ hI.1, (hI.2.or (k := 6 * p + w) (m := ndn (s &&& strt A) (2 ^ p)) (by omega) (Nat.lt_of_le_of_lt (ndn_le _ _) (Nat.lt_of_le_of_lt Nat.and_le_left hs))).cg fun k q hk => ?_⟩
      rw [ndn_bit, Nat.testBit_and, Nat.testBit_two_pow]
      constructor
      · rintro ((a | a) | ⟨a, x⟩)
        · exact .inl a
        · exact .inr ⟨by omega, a.2⟩
        · simp at x
          have ek : k / 6 = p := by omega
          exact .inr ⟨by omega, by omega, by rw [ek]; exact e2.1, by rw [ek]; exact e2.2, x.1.1, x.1.2, by rw [ek]; exact fun z => x.2 z.symm⟩
      · rintro (a | ⟨a, x1, x2, x3, x4, x5, x6⟩)
        · exact .inl (.inl a)
        · by_cases ek : k / 6 = p
          · refine .inr ⟨by omega, ?_⟩
            rw [ek] at x6
            simp [x4, x5]
            exact fun z => x6 z.symm
          · exact .inl (.inr ⟨by omega, x1, x2, x3, x4, x5, x6⟩)) (a := 0) (M := M) (by omega) ⟨hR, hI.cg fun k q hk => ⟨.inl, fun z => z.elim id (fun z => by omega)⟩⟩
  obtain ⟨hM, hr⟩ := hRs M2 H2
  refine ⟨M2, H1.trans ?_, H2, H3.cg fun k q hk => ⟨fun z => z.imp id (fun z => z.2), fun z => z.imp id (fun z => ⟨?_, z⟩)⟩⟩
  · rw [xfix_unf, sX12_findsSwollen_198]
    simp (disch := omega) only [xk_none, xk_inl, xk_inr, xk_ite, xri_v, xrl_v, xrv_v, xb_z0, xb_z1, xb_b2, if_true, if_false, ite_true, ite_false, iZ_lit, iZ_m1, iZ_m99, iZ_m8, iZ_add, iZ_sub, iZ_mul, iZ_neg, nz0, nzi, iZ_lt, iZ_le, iZ_inj, b2_z, b2_o, ite_bPz, ite_bPo, xb_bP, iZ_xin, if_pos, ite_self, ↓reduceIte, Int.reduceAdd, Int.reduceSub, Int.reduceMul, Int.reduceNeg, Int.reduceLT, Int.reduceLE, hM.P.1]
  · have := (msk_bit _ 9 _).mp z.2.2.1
    exact this.2.1
