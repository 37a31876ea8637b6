/-! the reference's bars -/
theorem xfor_E {sg : xS → Option xX} {st : Nat → xM → xS} {fin : xM → xS} {I : Nat → xM → Prop} {n b : Nat} (h : ∀ i M, b ≤ i → i < n → I i M → (∃ M', xfix sg (st i M) = xfix sg (st (i + 1) M') ∧ I (i + 1) M') ∨ ∃ M', xfix sg (st i M) = xfix sg (fin M') ∧ I n M') (h2 : ∀ M, I n M → ∃ M', xfix sg (st n M) = xfix sg (fin M') ∧ I n M') : ∀ {a : Nat} {M : xM}, b ≤ a → a ≤ n → I a M → ∃ M', xfix sg (st a M) = xfix sg (fin M') ∧ I n M' := by
  intro a M hb ha hI
  obtain ⟨d, e⟩ : ∃ d, n = a + d := ⟨n - a, by omega⟩
  induction d generalizing a M with
  | zero => rw [Nat.add_zero] at e; subst e; exact h2 M hI
  | succ d ih =>
    rcases h a M hb (by omega) hI with ⟨M', h1, h3⟩ | h1
    · obtain ⟨M'', h4, h5⟩ := ih (by omega) (by omega) h3 (by omega)
      exact ⟨M'', h1.trans h4, h5⟩
    · exact h1
def barI (M0 : xM) (S : Nat → Nat → Nat → Prop) (M : xM) : Prop := xSame (fun r => r = (132, 0)) M0 M ∧ ∃ B : Nat → Nat, mB M B ∧ ∀ p w q, p < 9 → w < 6 → ((B (6 * p + w)).testBit q = true ↔ S p w q)
theorem barI.cg {M0 M : xM} {S S' : Nat → Nat → Nat → Prop} (h : barI M0 S M) (hs : ∀ p w q, p < 9 → w < 6 → (S p w q ↔ S' p w q)) : barI M0 S' M := by
  obtain ⟨h1, B, h2, h3⟩ := h
  exact ⟨h1, B, h2, fun p w q hp hw => (h3 p w q hp hw).trans (hs p w q hp hw)⟩
theorem barI.put {M0 M : xM} {S : Nat → Nat → Nat → Prop} (h : barI M0 S M) {p w q : Nat} (hp : p < 9) (hw : w < 6) (hq : q < 9) : barI M0 (fun p' w' q' => S p' w' q' ∨ (p' = p ∧ w' = w ∧ q' = q)) (xpI M (132, 0) (6 * p + w) (xI M (132, 0) (6 * p + w) ||| iZ ((2 ^ q : Nat) : Int))) := by
  obtain ⟨h1, B, ⟨h2, h4⟩, h3⟩ := h
  refine ⟨h1.pI rfl, fun k => if k = 6 * p + w then B k ||| 2 ^ q else B k, ⟨fun k hk => ?_, fun k => ?_⟩, fun p' w' q' hp' hw' => ?_⟩
  · dsimp only
    rw [xI_pI]
    by_cases e : k = 6 * p + w
    · subst e
      rw [if_pos ⟨rfl, rfl⟩, if_pos rfl, h2 _ hk, iZ_or]
    · rw [if_neg (fun z => e z.2), if_neg e, h2 k hk]
  · have h512 : 2 ^ q < 2 ^ 9 := Nat.pow_lt_pow_right (by decide) hq
    dsimp only
    split
    · exact Nat.or_lt_two_pow (n := 9) (h4 k) h512
    · exact h4 k
  · dsimp only
    by_cases e : 6 * p' + w' = 6 * p + w
    · have ep : p' = p := by omega
      have ew : w' = w := by omega
      subst ep; subst ew
      rw [if_pos rfl, Nat.testBit_or, Bool.or_eq_true, h3 _ _ _ hp' hw', Nat.testBit_two_pow, decide_eq_true_iff]
      constructor
      · rintro (a | a)
        · exact .inl a
        · exact .inr ⟨rfl, rfl, a.symm⟩
      · rintro (a | a)
        · exact .inl a
        · exact .inr a.2.2.symm
    · rw [if_neg e, h3 _ _ _ hp' hw']
      constructor
      · exact .inl
      · rintro (a | a)
        · exact a
        · exact absurd (by rw [a.1, a.2.1]) e
theorem mA.bar {M0 M : xM} {A : dA} {S : Nat → Nat → Nat → Prop} (h : mA M0 A) (hb : barI M0 S M) : mA M A := h.same hb.1 (by decide) (by decide) (by decide) (by decide) (by decide) (by decide) (by decide) (by decide) (by decide)
theorem mA.bent {M : xM} {A : dA} (h : mA M A) {p : Nat} (hp : p < 9) : xI M (109, 0) p = bP (aBent A p = true) := h.2.2.2.2.2.2.1 p hp
/-- from this cell p is barred by q, k steps on -/
def hitk (A : dA) (c p w q k : Nat) : Prop := aC A c = p ∧ aBent A p = false ∧ ray A c w k = q ∧ q ≠ p ∧ aBent A q = false
theorem bars_ray {A : dA} {M0 : xM} (h : mA M0 A) {c p w : Nat} (hc : c < 512) (hp : aC A c = p) (hb : aBent A p = false) (hw : w < 6) {S : Nat → Nat → Nat → Prop} {M : xM} (hI : barI M0 S M) : ∃ M', xfix gX12_findsBars (95, [some (.inr (.inr (12, 0))), some (.inl (iZ c)), some (.inl (iZ p)), some (.inl (iZ w)), some (.inl (iZ (rX c w 1))), some (.inl (iZ (rY c w 1))), some (.inl (iZ (rZ c w 1))), none], [], M) = xfix gX12_findsBars (39, [some (.inr (.inr (12, 0))), some (.inl (iZ c)), some (.inl (iZ p)), some (.inl (iZ (w + 1))), none, none, none, none], [], M') ∧ barI M0 (fun p' w' q' => S p' w' q' ∨ (p' = p ∧ w' = w ∧ ∃ k, 1 ≤ k ∧ k < 8 ∧ hitk A c p w q' k)) M' := by
  have hp9 : p < 9 := by have := (h.ok.C hc).2; have := h.ok.P; omega
  refine xfor_E (b := 1) (sg := gX12_findsBars) (st := fun k M => (95, [some (.inr (.inr (12, 0))), some (.inl (iZ c)), some (.inl (iZ p)), some (.inl (iZ w)), some (.inl (iZ (rX c w k))), some (.inl (iZ (rY c w k))), some (.inl (iZ (rZ c w k))), none], [], M)) (fin := fun M => (39, [some (.inr (.inr (12, 0))), some (.inl (iZ c)), some (.inl (iZ p)), some (.inl (iZ (w + 1))), none, none, none, none], [], M)) (I := fun i M => barI M0 (fun p' w' q' => S p' w' q' ∨ (p' = p ∧ w' = w ∧ ∃ k, 1 ≤ k ∧ k < i ∧ hitk A c p w q' k)) M) (n := 8) (a := 1) (M := M) (fun i M hi1 hi hI => ?_) (fun M hI => ?_) (by omega) (by omega) (hI.cg fun p' w' q' _ _ => ⟨.inl, fun z => z.elim id (fun ⟨_, _, k, h1, h2, _⟩ => by omega)⟩)
  · have hr := r_le (k := i) hc hw (by omega)
    have hM := h.bar hI
    by_cases e : rIn c w i
    · refine .inl ?_
      have e159 : ∀ M', xfix gX12_findsBars (159, [some (.inr (.inr (12, 0))), some (.inl (iZ c)), some (.inl (iZ p)), some (.inl (iZ w)), some (.inl (iZ (rX c w i))), some (.inl (iZ (rY c w i))), some (.inl (iZ (rZ c w i))), none], [], M') = xfix gX12_findsBars (95, [some (.inr (.inr (12, 0))), some (.inl (iZ c)), some (.inl (iZ p)), some (.inl (iZ w)), some (.inl (iZ (rX c w (i + 1)))), some (.inl (iZ (rY c w (i + 1)))), some (.inl (iZ (rZ c w (i + 1)))), none], [], M') := fun M' => by
        rw [xfix_unf, sX12_findsBars_159]
        simp (disch := omega) only [xk_none, xk_inl, xk_inr, xk_ite, xri_v, xrl_v, xrv_v, xb_z0, xb_z1, xb_b2, if_true, if_false, ite_true, ite_false, iZ_lit, iZ_m1, iZ_m99, iZ_m8, iZ_add, iZ_sub, iZ_mul, iZ_neg, nz0, nzi, iZ_lt, iZ_le, iZ_inj, b2_z, b2_o, ite_bPz, ite_bPo, xb_bP, iZ_xin, if_pos, ite_self, ↓reduceIte, Int.reduceAdd, Int.reduceSub, Int.reduceMul, Int.reduceNeg, Int.reduceLT, Int.reduceLE, m_stepX M' hw, m_stepY M' hw, m_stepZ M' hw]
        rw [(r_S c w i).1, (r_S c w i).2.1, (r_S c w i).2.2]
      have ha := aat_le h.ok (rX c w i) (rY c w i) (rZ c w i)
      have hP := h.ok.P
      rw [xfix_unf, sX12_findsBars_95, m_isCell _ _ _ M (by omega) (by omega) (by omega), xri_v]
      simp (disch := omega) only [xk_none, xk_inl, xk_inr, xk_ite, xri_v, xrl_v, xrv_v, xb_z0, xb_z1, xb_b2, if_true, if_false, ite_true, ite_false, iZ_lit, iZ_m1, iZ_m99, iZ_m8, iZ_add, iZ_sub, iZ_mul, iZ_neg, nz0, nzi, iZ_lt, iZ_le, iZ_inj, b2_z, b2_o, ite_bPz, ite_bPo, xb_bP, iZ_xin, if_pos, ite_self, ↓reduceIte, Int.reduceAdd, Int.reduceSub, Int.reduceMul, Int.reduceNeg, Int.reduceLT, Int.reduceLE]
      rw [m_at _ _ _ M hM (by omega) (by omega) (by omega)]
      by_cases e2 : aat A (rX c w i) (rY c w i) (rZ c w i) = -1
      · rw [e2]
        simp (disch := omega) only [xk_none, xk_inl, xk_inr, xk_ite, xri_v, xrl_v, xrv_v, xb_z0, xb_z1, xb_b2, if_true, if_false, ite_true, ite_false, iZ_lit, iZ_m1, iZ_m99, iZ_m8, iZ_add, iZ_sub, iZ_mul, iZ_neg, nz0, nzi, iZ_lt, iZ_le, iZ_inj, b2_z, b2_o, ite_bPz, ite_bPo, xb_bP, iZ_xin, if_pos, ite_self, ↓reduceIte, Int.reduceAdd, Int.reduceSub, Int.reduceMul, Int.reduceNeg, Int.reduceLT, Int.reduceLE, e159]
        refine ⟨M, rfl, hI.cg fun p' w' q' _ _ => ⟨fun z => z.imp id (fun ⟨a, b, k, h1, h2, h3⟩ => ⟨a, b, k, h1, by omega, h3⟩), fun z => z.imp id (fun ⟨a, b, k, h1, h2, h3⟩ => ⟨a, b, k, h1, ?_, h3⟩)⟩⟩
        have : k ≠ i := fun x => by subst x; have := h3.2.2.1; unfold ray at this; omega
        omega
      · obtain ⟨q, hq⟩ : ∃ q : Nat, aat A (rX c w i) (rY c w i) (rZ c w i) = q := ⟨(aat A (rX c w i) (rY c w i) (rZ c w i)).toNat, by omega⟩
        have hq9 : q < 9 := by omega
        rw [hq]
        have hqb := hM.bent hq9
        have ecl : Int32.toNatClampNeg (iZ (6 * (p : Int) + w)) = 6 * p + w := by rw [iZ_clamp (by omega)]; omega
        simp (disch := omega) only [xk_none, xk_inl, xk_inr, xk_ite, xri_v, xrl_v, xrv_v, xb_z0, xb_z1, xb_b2, if_true, if_false, ite_true, ite_false, iZ_lit, iZ_m1, iZ_m99, iZ_m8, iZ_add, iZ_sub, iZ_mul, iZ_neg, nz0, nzi, iZ_lt, iZ_le, iZ_inj, b2_z, b2_o, ite_bPz, ite_bPo, xb_bP, iZ_xin, if_pos, ite_self, ↓reduceIte, Int.reduceAdd, Int.reduceSub, Int.reduceMul, Int.reduceNeg, Int.reduceLT, Int.reduceLE, e159, iZ_clampN, ecl, hqb, iZ_one]
        have hno : ¬ (q ≠ p ∧ aBent A q = false) → ∀ p' w' q', (S p' w' q' ∨ (p' = p ∧ w' = w ∧ ∃ k, 1 ≤ k ∧ k < i ∧ hitk A c p w q' k)) ↔ (S p' w' q' ∨ (p' = p ∧ w' = w ∧ ∃ k, 1 ≤ k ∧ k < i + 1 ∧ hitk A c p w q' k)) := fun hn p' w' q' => ⟨fun z => z.imp id (fun ⟨a, b, k, h1, h2, h3⟩ => ⟨a, b, k, h1, by omega, h3⟩), fun z => z.imp id (fun ⟨a, b, k, h1, h2, h3⟩ => ⟨a, b, k, h1, by
          have : k ≠ i := fun x => by
            subst x
            have h4 := h3.2.2
            unfold ray at h4
            have : q' = q := by omega
            rw [this] at h4
            exact hn h4.2
          omega, h3⟩)⟩
        by_cases e3 : q = p
        · rw [if_pos e3]
          exact ⟨M, rfl, hI.cg fun p' w' q' _ _ => hno (fun z => z.1 e3) p' w' q'⟩
        · rw [if_neg e3]
          by_cases e4 : aBent A q = true
          · rw [if_pos e4]
            exact ⟨M, rfl, hI.cg fun p' w' q' _ _ => hno (fun z => by rw [e4] at z; cases z.2) p' w' q'⟩
          · rw [if_neg e4]
            refine ⟨_, rfl, (hI.put hp9 hw hq9).cg fun p' w' q' _ _ => ⟨?_, ?_⟩⟩
            · rintro ((a | ⟨a, b, k, h1, h2, h3⟩) | ⟨a, b, d⟩)
              · exact .inl a
              · exact .inr ⟨a, b, k, h1, by omega, h3⟩
              · subst d
                exact .inr ⟨a, b, i, hi1, by omega, hp, hb, hq, e3, Bool.eq_false_iff.mpr e4⟩
            · rintro (a | ⟨a, b, k, h1, h2, h3⟩)
              · exact .inl (.inl a)
              · by_cases ek : k = i
                · subst ek
                  have h4 := h3.2.2.1
                  unfold ray at h4
                  exact .inr ⟨a, b, by omega⟩
                · exact .inl (.inr ⟨a, b, k, h1, by omega, h3⟩)
    · refine .inr ⟨M, ?_, hI.cg fun p' w' q' _ _ => ⟨fun z => z.imp id (fun ⟨a, b, k, h1, h2, h3⟩ => ⟨a, b, k, h1, by omega, h3⟩), fun z => z.imp id (fun ⟨a, b, k, h1, h2, h3⟩ => ⟨a, b, k, h1, ?_, h3⟩)⟩⟩
      · rw [xfix_unf, sX12_findsBars_95, m_isCell _ _ _ M (by omega) (by omega) (by omega), xri_v]
        simp (disch := omega) only [xk_none, xk_inl, xk_inr, xk_ite, xri_v, xrl_v, xrv_v, xb_z0, xb_z1, xb_b2, if_true, if_false, ite_true, ite_false, iZ_lit, iZ_m1, iZ_m99, iZ_m8, iZ_add, iZ_sub, iZ_mul, iZ_neg, nz0, nzi, iZ_lt, iZ_le, iZ_inj, b2_z, b2_o, ite_bPz, ite_bPo, xb_bP, iZ_xin, if_pos, ite_self, ↓reduceIte, Int.reduceAdd, Int.reduceSub, Int.reduceMul, Int.reduceNeg, Int.reduceLT, Int.reduceLE]
        rw [if_neg e]
      · by_cases ek : k < i
        · exact ek
        · have h4 := h3.2.2.1
          have := aat_out (A := A) (rIn_out hc hw (Nat.le_of_not_lt ek) e)
          unfold ray at h4
          omega
  · have hr := r_le (k := 8) hc hw (by omega)
    refine ⟨M, ?_, hI⟩
    rw [xfix_unf, sX12_findsBars_95, m_isCell _ _ _ M (by omega) (by omega) (by omega), xri_v]
    simp (disch := omega) only [xk_none, xk_inl, xk_inr, xk_ite, xri_v, xrl_v, xrv_v, xb_z0, xb_z1, xb_b2, if_true, if_false, ite_true, ite_false, iZ_lit, iZ_m1, iZ_m99, iZ_m8, iZ_add, iZ_sub, iZ_mul, iZ_neg, nz0, nzi, iZ_lt, iZ_le, iZ_inj, b2_z, b2_o, ite_bPz, ite_bPo, xb_bP, iZ_xin, if_pos, ite_self, ↓reduceIte, Int.reduceAdd, Int.reduceSub, Int.reduceMul, Int.reduceNeg, Int.reduceLT, Int.reduceLE]
    rw [if_neg (rIn_8 hc hw)]
theorem bars_way {A : dA} {M0 : xM} (h : mA M0 A) {c : Nat} (hc : c < 512) {S : Nat → Nat → Nat → Prop} {M : xM} (hI : barI M0 S M) : ∃ M', xfix gX12_findsBars (39, [some (.inr (.inr (12, 0))), some (.inl (iZ c)), some (.inl (iZ (aC A c))), some (.inl (iZ 0)), none, none, none, none], [], M) = xfix gX12_findsBars (23, [some (.inr (.inr (12, 0))), some (.inl (iZ (c + 1))), none, none, none, none, none, none], [], M') ∧ barI M0 (fun p' w' q' => S p' w' q' ∨ ∃ k, 1 ≤ k ∧ k < 8 ∧ hitk A c p' w' q' k) M' := by
  have hC := h.ok.C hc
  have hP := h.ok.P
  have hM := h.bar hI
  by_cases e1 : aC A c = -1
  · refine ⟨M, ?_, hI.cg fun p' w' q' _ _ => ⟨.inl, fun z => z.elim id (fun ⟨k, h1, h2, h3⟩ => by have := h3.1; omega)⟩⟩
    rw [xfix_unf, sX12_findsBars_39]
    simp (disch := omega) only [xk_none, xk_inl, xk_inr, xk_ite, xri_v, xrl_v, xrv_v, xb_z0, xb_z1, xb_b2, if_true, if_false, ite_true, ite_false, iZ_lit, iZ_m1, iZ_m99, iZ_m8, iZ_add, iZ_sub, iZ_mul, iZ_neg, nz0, nzi, iZ_lt, iZ_le, iZ_inj, b2_z, b2_o, ite_bPz, ite_bPo, xb_bP, iZ_xin, if_pos, ite_self, ↓reduceIte, Int.reduceAdd, Int.reduceSub, Int.reduceMul, Int.reduceNeg, Int.reduceLT, Int.reduceLE, e1]
  · obtain ⟨p, hp⟩ : ∃ p : Nat, aC A c = p := ⟨(aC A c).toNat, by omega⟩
    have hp9 : p < 9 := by omega
    rw [hp]
    by_cases e2 : aBent A p = true
    · refine ⟨M, ?_, hI.cg fun p' w' q' _ _ => ⟨.inl, fun z => z.elim id (fun ⟨k, h1, h2, h3⟩ => by
        have h4 := h3.1
        have : p' = p := by omega
        have h5 := h3.2.1
        rw [this, e2] at h5
        cases h5)⟩⟩
      rw [xfix_unf, sX12_findsBars_39]
      simp (disch := omega) only [xk_none, xk_inl, xk_inr, xk_ite, xri_v, xrl_v, xrv_v, xb_z0, xb_z1, xb_b2, if_true, if_false, ite_true, ite_false, iZ_lit, iZ_m1, iZ_m99, iZ_m8, iZ_add, iZ_sub, iZ_mul, iZ_neg, nz0, nzi, iZ_lt, iZ_le, iZ_inj, b2_z, b2_o, ite_bPz, ite_bPo, xb_bP, iZ_xin, if_pos, ite_self, ↓reduceIte, Int.reduceAdd, Int.reduceSub, Int.reduceMul, Int.reduceNeg, Int.reduceLT, Int.reduceLE, iZ_clampN, hM.bent hp9]
    · have hb : aBent A p = false := Bool.eq_false_iff.mpr e2
      obtain ⟨M', H1, H2⟩ := xfor_M (sg := gX12_findsBars) (st := fun w M => (39, [some (.inr (.inr (12, 0))), some (.inl (iZ c)), some (.inl (iZ p)), some (.inl (iZ w)), none, none, none, none], [], M)) (I := fun w M => barI M0 (fun p' w' q' => S p' w' q' ∨ (p' = p ∧ w' < w ∧ ∃ k, 1 ≤ k ∧ k < 8 ∧ hitk A c p w' q' k)) M) (n := 6) (fun w M hw hI => by
        have hM := h.bar hI
        obtain ⟨M', g1, g2⟩ := bars_ray h hc hp hb hw hI
        refine ⟨M', ?_, g2.cg fun p' w' q' _ _ => ⟨?_, ?_⟩⟩
        · rw [nS]
          rw [← g1, xfix_unf, sX12_findsBars_39]
          simp (disch := omega) only [xk_none, xk_inl, xk_inr, xk_ite, xri_v, xrl_v, xrv_v, xb_z0, xb_z1, xb_b2, if_true, if_false, ite_true, ite_false, iZ_lit, iZ_m1, iZ_m99, iZ_m8, iZ_add, iZ_sub, iZ_mul, iZ_neg, nz0, nzi, iZ_lt, iZ_le, iZ_inj, b2_z, b2_o, ite_bPz, ite_bPo, xb_bP, iZ_xin, if_pos, ite_self, ↓reduceIte, Int.reduceAdd, Int.reduceSub, Int.reduceMul, Int.reduceNeg, Int.reduceLT, Int.reduceLE, if_neg, iZ_clampN, hM.bent hp9, e2, m_stepX M hw, m_stepY M hw, m_stepZ M hw, iZ_div, Int.ediv_nonneg]
          rw [(r_1 c w).1, (r_1 c w).2.1, (r_1 c w).2.2]
          exact if_neg Bool.false_ne_true
        · rintro ((a | ⟨a, b, d⟩) | ⟨a, b, d⟩)
          · exact .inl a
          · exact .inr ⟨a, by omega, d⟩
          · subst b; exact .inr ⟨a, by omega, d⟩
        · rintro (a | ⟨a, b, d⟩)
          · exact .inl (.inl a)
          · by_cases e : w' = w
            · subst e; exact .inr ⟨a, rfl, d⟩
            · exact .inl (.inr ⟨a, by omega, d⟩)) (a := 0) (M := M) (by omega) (hI.cg fun p' w' q' _ _ => ⟨.inl, fun z => z.elim id (fun z => by omega)⟩)
      refine ⟨M', H1.trans ?_, H2.cg fun p' w' q' _ hw' => ⟨?_, ?_⟩⟩
      · rw [xfix_unf, sX12_findsBars_39]
        simp (disch := omega) only [xk_none, xk_inl, xk_inr, xk_ite, xri_v, xrl_v, xrv_v, xb_z0, xb_z1, xb_b2, if_true, if_false, ite_true, ite_false, iZ_lit, iZ_m1, iZ_m99, iZ_m8, iZ_add, iZ_sub, iZ_mul, iZ_neg, nz0, nzi, iZ_lt, iZ_le, iZ_inj, b2_z, b2_o, ite_bPz, ite_bPo, xb_bP, iZ_xin, if_pos, ite_self, ↓reduceIte, Int.reduceAdd, Int.reduceSub, Int.reduceMul, Int.reduceNeg, Int.reduceLT, Int.reduceLE]
      · rintro (a | ⟨a, b, d⟩)
        · exact .inl a
        · subst a; exact .inr d
      · rintro (a | ⟨k, h1, h2, h3⟩)
        · exact .inl a
        · have h4 := h3.1
          have : p' = p := by omega
          subst this
          exact .inr ⟨rfl, hw', k, h1, h2, h3⟩
/-- who bars whom: the reference's rows as they must be -/
def brs (A : dA) (p w q : Nat) : Prop := ∃ c, c < 512 ∧ ∃ k, 1 ≤ k ∧ k < 8 ∧ hitk A c p w q k
noncomputable def barS (A : dA) (k : Nat) : Nat := msk (fun q => brs A (k / 6) (k % 6) q) 9
theorem m_findsBars {A : dA} {M : xM} (h : mA M A) : ∃ M', fX12_findsBars [.inr (.inr (12, 0))] M = some (none, M') ∧ xSame (fun r => r = (132, 0)) M M' ∧ mB M' (barS A) := by
  have h0 : fX12_findsBars [.inr (.inr (12, 0))] M = xfix gX12_findsBars (2, [some (.inr (.inr (12, 0))), some (.inl (iZ 0)), none, none, none, none, none, none], [], M) := by
    show xfix gX12_findsBars (0, [some (.inr (.inr (12, 0))), none, none, none, none, none, none, none], [], M) = _
    rw [xfix_unf, sX12_findsBars_0]
    simp (disch := omega) only [xk_none, xk_inl, xk_inr, xk_ite, xri_v, xrl_v, xrv_v, xb_z0, xb_z1, xb_b2, if_true, if_false, ite_true, ite_false, iZ_lit, iZ_m1, iZ_m99, iZ_m8, iZ_add, iZ_sub, iZ_mul, iZ_neg, nz0, nzi, iZ_lt, iZ_le, iZ_inj, b2_z, b2_o, ite_bPz, ite_bPo, xb_bP, iZ_xin, if_pos, ite_self, ↓reduceIte, Int.reduceAdd, Int.reduceSub, Int.reduceMul, Int.reduceNeg, Int.reduceLT, Int.reduceLE]
  obtain ⟨M1, H1, H2, H3⟩ := xfor_M (sg := gX12_findsBars) (st := fun k M => (2, [some (.inr (.inr (12, 0))), some (.inl (iZ k)), none, none, none, none, none, none], [], M)) (I := fun i M' => xSame (fun r => r = (132, 0)) M M' ∧ ∀ k, k < i → xI M' (132, 0) k = iZ 0) (n := 54) (fun i M' hi hI => by
    refine ⟨xpI M' (132, 0) i (iZ 0), ?_, hI.1.pI rfl, fun k hk => ?_⟩
    · rw [xfix_unf, sX12_findsBars_2, nS]
      simp (disch := omega) only [xk_none, xk_inl, xk_inr, xk_ite, xri_v, xrl_v, xrv_v, xb_z0, xb_z1, xb_b2, if_true, if_false, ite_true, ite_false, iZ_lit, iZ_m1, iZ_m99, iZ_m8, iZ_add, iZ_sub, iZ_mul, iZ_neg, nz0, nzi, iZ_lt, iZ_le, iZ_inj, b2_z, b2_o, ite_bPz, ite_bPo, xb_bP, iZ_xin, if_pos, ite_self, ↓reduceIte, Int.reduceAdd, Int.reduceSub, Int.reduceMul, Int.reduceNeg, Int.reduceLT, Int.reduceLE, if_neg, iZ_clampN]
    · rw [xI_pI]
      by_cases e : k = i
      · rw [if_pos ⟨rfl, e⟩]
      · rw [if_neg (fun z => e z.2)]; exact hI.2 k (by omega)) (a := 0) (M := M) (by omega) ⟨xSame.rf, fun k hk => by omega⟩
  have hI : barI M (fun _ _ _ => False) M1 := ⟨H2, fun _ => 0, ⟨fun k hk => H3 k hk, fun k => by show 0 < 512; decide⟩, fun p w q _ _ => by simp⟩
  obtain ⟨M2, H4, H5⟩ := xfor_M (sg := gX12_findsBars) (st := fun c M => (23, [some (.inr (.inr (12, 0))), some (.inl (iZ c)), none, none, none, none, none, none], [], M)) (I := fun i M' => barI M (fun p w q => ∃ c, c < i ∧ ∃ k, 1 ≤ k ∧ k < 8 ∧ hitk A c p w q k) M') (n := 512) (fun c M' hc hI => by
    have hM := h.bar hI
    obtain ⟨M'', g1, g2⟩ := bars_way h hc hI
    refine ⟨M'', ?_, g2.cg fun p w q _ _ => ⟨?_, ?_⟩⟩
    · rw [nS, ← g1, xfix_unf, sX12_findsBars_23]
      simp (disch := omega) only [xk_none, xk_inl, xk_inr, xk_ite, xri_v, xrl_v, xrv_v, xb_z0, xb_z1, xb_b2, if_true, if_false, ite_true, ite_false, iZ_lit, iZ_m1, iZ_m99, iZ_m8, iZ_add, iZ_sub, iZ_mul, iZ_neg, nz0, nzi, iZ_lt, iZ_le, iZ_inj, b2_z, b2_o, ite_bPz, ite_bPo, xb_bP, iZ_xin, if_pos, ite_self, ↓reduceIte, Int.reduceAdd, Int.reduceSub, Int.reduceMul, Int.reduceNeg, Int.reduceLT, Int.reduceLE, if_neg, iZ_clampN, hM.C hc]
    · rintro (⟨c', a, b⟩ | a)
      · exact ⟨c', by omega, b⟩
      · exact ⟨c, by omega, a⟩
    · rintro ⟨c', a, b⟩
      by_cases e : c' = c
      · subst e; exact .inr b
      · exact .inl ⟨c', by omega, b⟩) (a := 0) (M := M1) (by omega) (hI.cg fun p w q _ _ => ⟨False.elim, fun ⟨c, a, _⟩ => by omega⟩)
  have H6 : xfix gX12_findsBars (2, [some (.inr (.inr (12, 0))), some (.inl (iZ ((54 : Nat) : Int))), none, none, none, none, none, none], [], M1) = xfix gX12_findsBars (23, [some (.inr (.inr (12, 0))), some (.inl (iZ ((0 : Nat) : Int))), none, none, none, none, none, none], [], M1) := by
    rw [xfix_unf, sX12_findsBars_2]
    simp (disch := omega) only [xk_none, xk_inl, xk_inr, xk_ite, xri_v, xrl_v, xrv_v, xb_z0, xb_z1, xb_b2, if_true, if_false, ite_true, ite_false, iZ_lit, iZ_m1, iZ_m99, iZ_m8, iZ_add, iZ_sub, iZ_mul, iZ_neg, nz0, nzi, iZ_lt, iZ_le, iZ_inj, b2_z, b2_o, ite_bPz, ite_bPo, xb_bP, iZ_xin, if_pos, ite_self, ↓reduceIte, Int.reduceAdd, Int.reduceSub, Int.reduceMul, Int.reduceNeg, Int.reduceLT, Int.reduceLE]
    rfl
  refine ⟨M2, h0.trans (H1.trans (H6.trans (H4.trans ?_))), H5.1, ?_⟩
  · rw [xfix_unf, sX12_findsBars_23]
    simp (disch := omega) only [xk_none, xk_inl, xk_inr, xk_ite, xri_v, xrl_v, xrv_v, xb_z0, xb_z1, xb_b2, if_true, if_false, ite_true, ite_false, iZ_lit, iZ_m1, iZ_m99, iZ_m8, iZ_add, iZ_sub, iZ_mul, iZ_neg, nz0, nzi, iZ_lt, iZ_le, iZ_inj, b2_z, b2_o, ite_bPz, ite_bPo, xb_bP, iZ_xin, if_pos, ite_self, ↓reduceIte, Int.reduceAdd, Int.reduceSub, Int.reduceMul, Int.reduceNeg, Int.reduceLT, Int.reduceLE]
  · obtain ⟨-, B, ⟨h1, h2⟩, h3⟩ := H5
    refine ⟨fun k hk => ?_, fun k => msk_lt _ 9⟩
    rw [h1 k hk]
    have : B k = barS A k := msk_ext (h2 k) (fun q hq => by
      have := h3 (k / 6) (k % 6) q (by omega) (by omega)
      rw [show 6 * (k / 6) + k % 6 = k by omega] at this
      exact this)
    rw [this]
