/-! the reference's swollen bars -/
/-- p, as it is swollen, is barred by q -/
def sbr (A : dA) (p w q : Nat) : Prop := aBent A p = false ∧ p < aP A ∧ aBent A q = false ∧ q < aP A ∧ q ≠ p ∧ ∃ c, c < 512 ∧ rch A c p ∧ ∃ k, 1 ≤ k ∧ k < 8 ∧ rIn c w k ∧ rch A (rC c w k) q
/-- the straight parts -/
noncomputable def strt (A : dA) : Nat := msk (fun p => p < aP A ∧ aBent A p = false) 9
theorem strt_lt (A : dA) : strt A < 512 := msk_lt _ 9
theorem sw_set {A : dA} {M : xM} (hA : mA M A) (hR : mkI (161, 0) 512 (rch A) M) {c w : Nat} (hc : c < 512) (hw : w < 6) : ∃ s : Nat, s < 512 ∧ (∀ q, s.testBit q = true ↔ ∃ k, 1 ≤ k ∧ k < 8 ∧ rIn c w k ∧ rch A (rC c w k) q) ∧ ∀ st : Nat, xfix gX12_findsSwollen (129, [some (.inr (.inr (12, 0))), some (.inl (iZ st)), some (.inl (iZ c)), some (.inl (iZ w)), some (.inl (iZ 0)), some (.inl (iZ (rX c w 1))), some (.inl (iZ (rY c w 1))), some (.inl (iZ (rZ c w 1))), none], [], M) = xfix gX12_findsSwollen (198, [some (.inr (.inr (12, 0))), some (.inl (iZ st)), some (.inl (iZ c)), some (.inl (iZ w)), some (.inl (iZ s)), none, none, none, some (.inl (iZ 0))], [], M) := by
  have key : ∀ d i s0 : Nat, 1 ≤ i → i + d = 8 → s0 < 512 → ∃ s : Nat, s < 512 ∧ (∀ q, s.testBit q = true ↔ s0.testBit q = true ∨ ∃ k, i ≤ k ∧ k < 8 ∧ rIn c w k ∧ rch A (rC c w k) q) ∧ ∀ st : Nat, xfix gX12_findsSwollen (129, [some (.inr (.inr (12, 0))), some (.inl (iZ st)), some (.inl (iZ c)), some (.inl (iZ w)), some (.inl (iZ s0)), some (.inl (iZ (rX c w i))), some (.inl (iZ (rY c w i))), some (.inl (iZ (rZ c w i))), none], [], M) = xfix gX12_findsSwollen (198, [some (.inr (.inr (12, 0))), some (.inl (iZ st)), some (.inl (iZ c)), some (.inl (iZ w)), some (.inl (iZ s)), none, none, none, some (.inl (iZ 0))], [], M) := by
    intro d
    induction d with
    | zero =>
      intro i s0 h1 h2 h3
      have : i = 8 := by omega
      subst this
      have hr := r_le (k := 8) hc hw (by omega)
      refine ⟨s0, h3, fun q => ⟨.inl, fun z => z.elim id (fun ⟨k, a, b, _⟩ => by omega)⟩, fun st => ?_⟩
      rw [xfix_unf, sX12_findsSwollen_129, m_isCell _ _ _ M (by omega) (by omega) (by omega), xri_v]
      simp (disch := omega) only [xk_none, xk_inl, xk_inr, xk_ite, xri_v, xrl_v, xrv_v, xb_z0, xb_z1, xb_b2, if_true, if_false, ite_true, ite_false, iZ_lit, iZ_m1, iZ_m99, iZ_m8, iZ_add, iZ_sub, iZ_mul, iZ_neg, nz0, nzi, iZ_lt, iZ_le, iZ_inj, b2_z, b2_o, ite_bPz, ite_bPo, xb_bP, iZ_xin, if_pos, ite_self, ↓reduceIte, Int.reduceAdd, Int.reduceSub, Int.reduceMul, Int.reduceNeg, Int.reduceLT, Int.reduceLE]
      rw [if_neg (rIn_8 hc hw)]
    | succ d ih =>
      intro i s0 h1 h2 h3
      have hr := r_le (k := i) hc hw (by omega)
      by_cases e : rIn c w i
      · obtain ⟨b, b1, b2, b3⟩ := hR.at (rC_lt e)
        obtain ⟨s, s1, s2, s3⟩ := ih (i + 1) (s0 ||| b) (by omega) (by omega) (Nat.or_lt_two_pow (n := 9) h3 b2)
        refine ⟨s, s1, fun q => (s2 q).trans ?_, fun st => ?_⟩
        · rw [Nat.testBit_or, Bool.or_eq_true, b3]
          constructor
          · rintro ((a | a) | ⟨k, a, x⟩)
            · exact .inl a
            · exact .inr ⟨i, by omega, by omega, e, a⟩
            · exact .inr ⟨k, by omega, x⟩
          · rintro (a | ⟨k, a, x, y, z⟩)
            · exact .inl (.inl a)
            · by_cases ek : k = i
              · subst ek; exact .inl (.inr z)
              · exact .inr ⟨k, by omega, x, y, z⟩
        · rw [← s3 st, xfix_unf, sX12_findsSwollen_129, m_isCell _ _ _ M (by omega) (by omega) (by omega), xri_v]
          have ecl2 : Int32.toNatClampNeg (iZ (64 * rZ c w i + 8 * rY c w i + rX c w i)) = rC c w i := iZ_clamp (by omega)
          simp (disch := omega) only [xk_none, xk_inl, xk_inr, xk_ite, xri_v, xrl_v, xrv_v, xb_z0, xb_z1, xb_b2, if_true, if_false, ite_true, ite_false, iZ_lit, iZ_m1, iZ_m99, iZ_m8, iZ_add, iZ_sub, iZ_mul, iZ_neg, nz0, nzi, iZ_lt, iZ_le, iZ_inj, b2_z, b2_o, ite_bPz, ite_bPo, xb_bP, iZ_xin, if_pos, ite_self, ↓reduceIte, Int.reduceAdd, Int.reduceSub, Int.reduceMul, Int.reduceNeg, Int.reduceLT, Int.reduceLE, m_stepX M hw, m_stepY M hw, m_stepZ M hw, ecl2, b1, iZ_or]
          rw [(r_S c w i).1, (r_S c w i).2.1, (r_S c w i).2.2]
      · refine ⟨s0, h3, fun q => ⟨.inl, fun z => z.elim id (fun ⟨k, a, b, x, y⟩ => absurd x (rIn_out hc hw a e))⟩, fun st => ?_⟩
        rw [xfix_unf, sX12_findsSwollen_129, m_isCell _ _ _ M (by omega) (by omega) (by omega), xri_v]
        simp (disch := omega) only [xk_none, xk_inl, xk_inr, xk_ite, xri_v, xrl_v, xrv_v, xb_z0, xb_z1, xb_b2, if_true, if_false, ite_true, ite_false, iZ_lit, iZ_m1, iZ_m99, iZ_m8, iZ_add, iZ_sub, iZ_mul, iZ_neg, nz0, nzi, iZ_lt, iZ_le, iZ_inj, b2_z, b2_o, ite_bPz, ite_bPo, xb_bP, iZ_xin, if_pos, ite_self, ↓reduceIte, Int.reduceAdd, Int.reduceSub, Int.reduceMul, Int.reduceNeg, Int.reduceLT, Int.reduceLE]
        rw [if_neg e]
  obtain ⟨s, s1, s2, s3⟩ := key 7 1 0 (by omega) (by omega) (by omega)
  refine ⟨s, s1, fun q => (s2 q).trans ?_, s3⟩
  rw [Nat.zero_testBit]
  simp
