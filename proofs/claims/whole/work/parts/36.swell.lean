/-! the reference's swollen parts -/
/-- a row of sets -/
def mkI (r : xR) (n : Nat) (S : Nat → Nat → Prop) (M : xM) : Prop := ∃ B : Nat → Nat, (∀ k, k < n → xI M r k = iZ (B k)) ∧ (∀ k, B k < 512) ∧ ∀ k q, k < n → ((B k).testBit q = true ↔ S k q)
theorem mkI.cg {r : xR} {n : Nat} {S S' : Nat → Nat → Prop} {M : xM} (h : mkI r n S M) (hs : ∀ k q, k < n → (S k q ↔ S' k q)) : mkI r n S' M := by
  obtain ⟨B, h1, h2, h3⟩ := h
  exact ⟨B, h1, h2, fun k q hk => (h3 k q hk).trans (hs k q hk)⟩
theorem mkI.at {r : xR} {n : Nat} {S : Nat → Nat → Prop} {M : xM} (h : mkI r n S M) {k : Nat} (hk : k < n) : ∃ b : Nat, xI M r k = iZ b ∧ b < 512 ∧ ∀ q, b.testBit q = true ↔ S k q := by
  obtain ⟨B, h1, h2, h3⟩ := h
  exact ⟨B k, h1 k hk, h2 k, fun q => h3 k q hk⟩
theorem mkI.put {r : xR} {n : Nat} {S : Nat → Nat → Prop} {M : xM} (h : mkI r n S M) {k m : Nat} (hm : m < 512) : mkI r n (fun k' q => if k' = k then m.testBit q = true else S k' q) (xpI M r k (iZ m)) := by
  obtain ⟨B, h1, h2, h3⟩ := h
  refine ⟨fun k' => if k' = k then m else B k', fun k' hk' => ?_, fun k' => ?_, fun k' q hk' => ?_⟩
  · dsimp only
    rw [xI_pI]
    by_cases e : k' = k
    · rw [if_pos ⟨rfl, e⟩, if_pos e]
    · rw [if_neg (fun z => e z.2), if_neg e]; exact h1 k' hk'
  · dsimp only; split
    · exact hm
    · exact h2 k'
  · dsimp only; split
    · exact Iff.rfl
    · exact h3 k' q hk'
theorem mkI.or {r : xR} {n : Nat} {S : Nat → Nat → Prop} {M : xM} (h : mkI r n S M) {k m : Nat} (hk : k < n) (hm : m < 512) : mkI r n (fun k' q => S k' q ∨ (k' = k ∧ m.testBit q = true)) (xpI M r k (xI M r k ||| iZ m)) := by
  obtain ⟨b, h1, h2, h3⟩ := h.at hk
  rw [h1, iZ_or]
  refine (h.put (k := k) (m := b ||| m) (Nat.or_lt_two_pow (n := 9) h2 hm)).cg fun k' q hk' => ?_
  by_cases e : k' = k
  · subst e
    rw [if_pos rfl, Nat.testBit_or, Bool.or_eq_true, h3]
    simp
  · rw [if_neg e]; simp [e]
theorem mkI.same {r : xR} {n : Nat} {S : Nat → Nat → Prop} {P : xR → Prop} {M M' : xM} (h : mkI r n S M) (hs : xSame P M M') (hr : ¬ P r) : mkI r n S M' := by
  obtain ⟨B, h1, h2, h3⟩ := h
  exact ⟨B, fun k hk => by rw [(hs r hr).1]; exact h1 k hk, h2, h3⟩
/-- the cell that is k steps on -/
def rC (c w k : Nat) : Nat := (64 * rZ c w k + 8 * rY c w k + rX c w k).toNat
theorem rC_lt {c w k : Nat} (h : rIn c w k) : rC c w k < 512 := by unfold rC; obtain ⟨a, b, d⟩ := h; omega
theorem ray_in {A : dA} {c w k : Nat} (h : rIn c w k) : ray A c w k = aC A (rC c w k) := if_pos h
/-- this part, swollen, reaches this cell -/
def rch (A : dA) (c q : Nat) : Prop := aC A c = q ∨ (aC A c = -1 ∧ ∃ c' w, c' < 512 ∧ w < 6 ∧ aC A c' = q ∧ aSw A (6 * q + w) = true ∧ rIn c' w 1 ∧ rC c' w 1 = c)
theorem mA.sw {M : xM} {A : dA} (h : mA M A) {k : Nat} (hk : k < 54) : xI M (159, 0) k = bP (aSw A k = true) := h.2.2.2.2.2.2.2 k hk
theorem m_swells {A : dA} {M : xM} (h : mA M A) : ∃ M', fX12_swells [.inr (.inr (12, 0))] M = some (none, M') ∧ xSame (fun r => r = (161, 0)) M M' ∧ mkI (161, 0) 512 (rch A) M' := by
  have hP := h.ok.P
  have h0 : fX12_swells [.inr (.inr (12, 0))] M = xfix gX12_swells (2, [some (.inr (.inr (12, 0))), some (.inl (iZ 0)), none, none, none, none, none], [], M) := by
    show xfix gX12_swells (0, [some (.inr (.inr (12, 0))), none, none, none, none, none, none], [], M) = _
    rw [xfix_unf, sX12_swells_0]
    simp (disch := omega) only [xk_none, xk_inl, xk_inr, xk_ite, xri_v, xrl_v, xrv_v, xb_z0, xb_z1, xb_b2, if_true, if_false, ite_true, ite_false, iZ_lit, iZ_m1, iZ_m99, iZ_m8, iZ_add, iZ_sub, iZ_mul, iZ_neg, nz0, nzi, iZ_lt, iZ_le, iZ_inj, b2_z, b2_o, ite_bPz, ite_bPo, xb_bP, iZ_xin, if_pos, ite_self, ↓reduceIte, Int.reduceAdd, Int.reduceSub, Int.reduceMul, Int.reduceNeg, Int.reduceLT, Int.reduceLE]
  have hsm : ∀ {M'}, xSame (fun r => r = (161, 0)) M M' → mA M' A := fun hs => h.same hs (by decide) (by decide) (by decide) (by decide) (by decide) (by decide) (by decide) (by decide) (by decide)
  obtain ⟨M1, H1, H2, H3⟩ := xfor_M (sg := gX12_swells) (st := fun k M => (2, [some (.inr (.inr (12, 0))), some (.inl (iZ k)), none, none, none, none, none], [], M)) (I := fun i M' => xSame (fun r => r = (161, 0)) M M' ∧ mkI (161, 0) i (fun c q => aC A c = q) M') (n := 512) (fun i M' hi hI => by
    have hM := hsm hI.1
    have hC := hM.C hi
    have hCr := h.ok.C hi
    have gen : ∀ m : Nat, m < 512 → (∀ q, m.testBit q = true ↔ aC A i = q) → xSame (fun r => r = (161, 0)) M (xpI M' (161, 0) i (iZ m)) ∧ mkI (161, 0) (i + 1) (fun c q => aC A c = q) (xpI M' (161, 0) i (iZ m)) := fun m hm hq => by
      refine ⟨hI.1.pI rfl, ?_⟩
      obtain ⟨B, h1, h2, h3⟩ := hI.2
      refine ⟨fun k' => if k' = i then m else B k', fun k' hk' => ?_, fun k' => ?_, fun k' q hk' => ?_⟩
      · dsimp only
        rw [xI_pI]
        by_cases e : k' = i
        · rw [if_pos ⟨rfl, e⟩, if_pos e]
        · rw [if_neg (fun z => e z.2), if_neg e]; exact h1 k' (by omega)
      · dsimp only; split
        · exact hm
        · exact h2 k'
      · dsimp only; split
        · rename_i e; rw [e]; exact hq q
        · exact h3 k' q (by omega)
    by_cases e : aC A i = -1
    · refine ⟨_, ?_, gen 0 (by decide) (fun q => by rw [Nat.zero_testBit, e]; exact ⟨fun z => (by cases z), fun z => (by omega)⟩)⟩
      rw [xfix_unf, sX12_swells_2, nS]
      simp (disch := omega) only [xk_none, xk_inl, xk_inr, xk_ite, xri_v, xrl_v, xrv_v, xb_z0, xb_z1, xb_b2, if_true, if_false, ite_true, ite_false, iZ_lit, iZ_m1, iZ_m99, iZ_m8, iZ_add, iZ_sub, iZ_mul, iZ_neg, nz0, nzi, iZ_lt, iZ_le, iZ_inj, b2_z, b2_o, ite_bPz, ite_bPo, xb_bP, iZ_xin, if_pos, ite_self, ↓reduceIte, Int.reduceAdd, Int.reduceSub, Int.reduceMul, Int.reduceNeg, Int.reduceLT, Int.reduceLE, if_neg, iZ_clampN, hC, e]
      rfl
    · obtain ⟨p, hp⟩ : ∃ p : Nat, aC A i = p := ⟨(aC A i).toNat, by omega⟩
      have hp9 : p < 9 := by omega
      refine ⟨_, ?_, gen (2 ^ p) (Nat.pow_lt_pow_right (n := 9) (by decide) hp9) (fun q => by rw [Nat.testBit_two_pow, hp, decide_eq_true_iff]; omega)⟩
      rw [xfix_unf, sX12_swells_2, nS]
      simp (disch := omega) only [xk_none, xk_inl, xk_inr, xk_ite, xri_v, xrl_v, xrv_v, xb_z0, xb_z1, xb_b2, if_true, if_false, ite_true, ite_false, iZ_lit, iZ_m1, iZ_m99, iZ_m8, iZ_add, iZ_sub, iZ_mul, iZ_neg, nz0, nzi, iZ_lt, iZ_le, iZ_inj, b2_z, b2_o, ite_bPz, ite_bPo, xb_bP, iZ_xin, if_pos, ite_self, ↓reduceIte, Int.reduceAdd, Int.reduceSub, Int.reduceMul, Int.reduceNeg, Int.reduceLT, Int.reduceLE, if_neg, iZ_clampN, hC, hp, iZ_one]) (a := 0) (M := M) (by omega) ⟨xSame.rf, fun _ => 0, fun k hk => by omega, fun k => by show 0 < 512; decide, fun k q hk => by omega⟩
  have H4 : xfix gX12_swells (2, [some (.inr (.inr (12, 0))), some (.inl (iZ ((512 : Nat) : Int))), none, none, none, none, none], [], M1) = xfix gX12_swells (45, [some (.inr (.inr (12, 0))), some (.inl (iZ ((0 : Nat) : Int))), none, none, none, none, none], [], M1) := by
    rw [xfix_unf, sX12_swells_2]
    simp (disch := omega) only [xk_none, xk_inl, xk_inr, xk_ite, xri_v, xrl_v, xrv_v, xb_z0, xb_z1, xb_b2, if_true, if_false, ite_true, ite_false, iZ_lit, iZ_m1, iZ_m99, iZ_m8, iZ_add, iZ_sub, iZ_mul, iZ_neg, nz0, nzi, iZ_lt, iZ_le, iZ_inj, b2_z, b2_o, ite_bPz, ite_bPo, xb_bP, iZ_xin, if_pos, ite_self, ↓reduceIte, Int.reduceAdd, Int.reduceSub, Int.reduceMul, Int.reduceNeg, Int.reduceLT, Int.reduceLE]
    rfl
  obtain ⟨M2, H5, H6, H7⟩ := xfor_M (sg := gX12_swells) (st := fun c M => (45, [some (.inr (.inr (12, 0))), some (.inl (iZ c)), none, none, none, none, none], [], M)) (I := fun i M' => xSame (fun r => r = (161, 0)) M M' ∧ mkI (161, 0) 512 (fun c q => aC A c = q ∨ (aC A c = -1 ∧ ∃ c' w, c' < i ∧ w < 6 ∧ aC A c' = q ∧ aSw A (6 * q + w) = true ∧ rIn c' w 1 ∧ rC c' w 1 = c)) M') (n := 512) (fun c M' hc hI => by
    have hM := hsm hI.1
    have hC := hM.C hc
    have hCr := h.ok.C hc
    have h45 : xfix gX12_swells (45, [some (.inr (.inr (12, 0))), some (.inl (iZ c)), none, none, none, none, none], [], M') = xfix gX12_swells (61, [some (.inr (.inr (12, 0))), some (.inl (iZ c)), some (.inl (iZ (aC A c))), some (.inl (iZ 0)), none, none, none], [], M') := by
      rw [xfix_unf, sX12_swells_45]
      simp (disch := omega) only [xk_none, xk_inl, xk_inr, xk_ite, xri_v, xrl_v, xrv_v, xb_z0, xb_z1, xb_b2, if_true, if_false, ite_true, ite_false, iZ_lit, iZ_m1, iZ_m99, iZ_m8, iZ_add, iZ_sub, iZ_mul, iZ_neg, nz0, nzi, iZ_lt, iZ_le, iZ_inj, b2_z, b2_o, ite_bPz, ite_bPo, xb_bP, iZ_xin, if_pos, ite_self, ↓reduceIte, Int.reduceAdd, Int.reduceSub, Int.reduceMul, Int.reduceNeg, Int.reduceLT, Int.reduceLE, if_neg, iZ_clampN, hC]
    rw [h45, nS]
    by_cases e : aC A c = -1
    · refine ⟨M', ?_, hI.1, hI.2.cg fun k q hk => ⟨fun z => z.imp id (fun ⟨a, c', w, h1, h2⟩ => ⟨a, c', w, by omega, h2⟩), fun z => z.imp id (fun ⟨a, c', w, h1, h2, h3, h4⟩ => ⟨a, c', w, ?_, h2, h3, h4⟩)⟩⟩
      · rw [xfix_unf, sX12_swells_61]
        simp (disch := omega) only [xk_none, xk_inl, xk_inr, xk_ite, xri_v, xrl_v, xrv_v, xb_z0, xb_z1, xb_b2, if_true, if_false, ite_true, ite_false, iZ_lit, iZ_m1, iZ_m99, iZ_m8, iZ_add, iZ_sub, iZ_mul, iZ_neg, nz0, nzi, iZ_lt, iZ_le, iZ_inj, b2_z, b2_o, ite_bPz, ite_bPo, xb_bP, iZ_xin, if_pos, ite_self, ↓reduceIte, Int.reduceAdd, Int.reduceSub, Int.reduceMul, Int.reduceNeg, Int.reduceLT, Int.reduceLE, if_neg, e]
      · by_cases ec : c' = c
        · subst ec; omega
        · omega
    · obtain ⟨p, hp⟩ : ∃ p : Nat, aC A c = p := ⟨(aC A c).toNat, by omega⟩
      have hp9 : p < 9 := by omega
      obtain ⟨M2, G1, G2, G3⟩ := xfor_M (sg := gX12_swells) (st := fun w M => (61, [some (.inr (.inr (12, 0))), some (.inl (iZ c)), some (.inl (iZ p)), some (.inl (iZ w)), none, none, none], [], M)) (I := fun i M' => xSame (fun r => r = (161, 0)) M M' ∧ mkI (161, 0) 512 (fun k q => aC A k = q ∨ (aC A k = -1 ∧ ∃ c' w, (c' < c ∨ (c' = c ∧ w < i)) ∧ w < 6 ∧ aC A c' = q ∧ aSw A (6 * q + w) = true ∧ rIn c' w 1 ∧ rC c' w 1 = k)) M') (n := 6) (fun w M' hw hI => by
        have hM := hsm hI.1
        have hr := r_le (k := 1) hc hw (by omega)
        have ecl : Int32.toNatClampNeg (iZ (6 * (p : Int) + w)) = 6 * p + w := by rw [iZ_clamp (by omega)]; omega
        have hq := hM.sw (k := 6 * p + w) (by omega)
        have hno : ¬ (aSw A (6 * p + w) = true ∧ rIn c w 1 ∧ aC A (rC c w 1) = -1) → xSame (fun r => r = (161, 0)) M M' ∧ mkI (161, 0) 512 (fun k q => aC A k = q ∨ (aC A k = -1 ∧ ∃ c' w', (c' < c ∨ (c' = c ∧ w' < w + 1)) ∧ w' < 6 ∧ aC A c' = q ∧ aSw A (6 * q + w') = true ∧ rIn c' w' 1 ∧ rC c' w' 1 = k)) M' := fun hn => ⟨hI.1, hI.2.cg fun k q hk => ⟨fun z => z.imp id (fun ⟨a, c', w', h1, h2⟩ => ⟨a, c', w', by omega, h2⟩), fun z => z.imp id (fun ⟨a, c', w', h1, h2, h3, h4, h5, h6⟩ => ⟨a, c', w', (by
          by_cases ew : c' = c ∧ w' = w
          · obtain ⟨e1, e2⟩ := ew
            subst e1; subst e2
            have : q = p := by omega
            subst this
            exact absurd ⟨h4, h5, by rw [h6]; exact a⟩ hn
          · omega), h2, h3, h4, h5, h6⟩)⟩⟩
        rw [nS, xfix_unf, sX12_swells_61]
        simp (disch := omega) only [xk_none, xk_inl, xk_inr, xk_ite, xri_v, xrl_v, xrv_v, xb_z0, xb_z1, xb_b2, if_true, if_false, ite_true, ite_false, iZ_lit, iZ_m1, iZ_m99, iZ_m8, iZ_add, iZ_sub, iZ_mul, iZ_neg, nz0, nzi, iZ_lt, iZ_le, iZ_inj, b2_z, b2_o, ite_bPz, ite_bPo, xb_bP, iZ_xin, if_pos, ite_self, ↓reduceIte, Int.reduceAdd, Int.reduceSub, Int.reduceMul, Int.reduceNeg, Int.reduceLT, Int.reduceLE, if_neg, m_stepX M' hw, m_stepY M' hw, m_stepZ M' hw, iZ_div, Int.ediv_nonneg, ecl, hq]
        rw [(r_1 c w).1, (r_1 c w).2.1, (r_1 c w).2.2]
        by_cases e1 : aSw A (6 * p + w) = true
        · rw [if_pos e1, m_isCell _ _ _ M' (by omega) (by omega) (by omega)]
          simp (disch := omega) only [xk_none, xk_inl, xk_inr, xk_ite, xri_v, xrl_v, xrv_v, xb_z0, xb_z1, xb_b2, if_true, if_false, ite_true, ite_false, iZ_lit, iZ_m1, iZ_m99, iZ_m8, iZ_add, iZ_sub, iZ_mul, iZ_neg, nz0, nzi, iZ_lt, iZ_le, iZ_inj, b2_z, b2_o, ite_bPz, ite_bPo, xb_bP, iZ_xin, if_pos, ite_self, ↓reduceIte, Int.reduceAdd, Int.reduceSub, Int.reduceMul, Int.reduceNeg, Int.reduceLT, Int.reduceLE]
          by_cases e2 : rIn c w 1
          · rw [if_pos e2, m_at _ _ _ M' hM (by omega) (by omega) (by omega)]
            have ha := aat_le h.ok (rX c w 1) (rY c w 1) (rZ c w 1)
            have hra := ray_in (A := A) e2
            unfold ray at hra
            simp (disch := omega) only [xk_none, xk_inl, xk_inr, xk_ite, xri_v, xrl_v, xrv_v, xb_z0, xb_z1, xb_b2, if_true, if_false, ite_true, ite_false, iZ_lit, iZ_m1, iZ_m99, iZ_m8, iZ_add, iZ_sub, iZ_mul, iZ_neg, nz0, nzi, iZ_lt, iZ_le, iZ_inj, b2_z, b2_o, ite_bPz, ite_bPo, xb_bP, iZ_xin, if_pos, ite_self, ↓reduceIte, Int.reduceAdd, Int.reduceSub, Int.reduceMul, Int.reduceNeg, Int.reduceLT, Int.reduceLE]
            by_cases e3 : aat A (rX c w 1) (rY c w 1) (rZ c w 1) = -1
            · rw [if_pos e3]
              have ecl2 : Int32.toNatClampNeg (iZ (64 * rZ c w 1 + 8 * rY c w 1 + rX c w 1)) = rC c w 1 := iZ_clamp (by omega)
              simp (disch := omega) only [xk_none, xk_inl, xk_inr, xk_ite, xri_v, xrl_v, xrv_v, xb_z0, xb_z1, xb_b2, if_true, if_false, ite_true, ite_false, iZ_lit, iZ_m1, iZ_m99, iZ_m8, iZ_add, iZ_sub, iZ_mul, iZ_neg, nz0, nzi, iZ_lt, iZ_le, iZ_inj, b2_z, b2_o, ite_bPz, ite_bPo, xb_bP, iZ_xin, if_pos, ite_self, ↓reduceIte, Int.reduceAdd, Int.reduceSub, Int.reduceMul, Int.reduceNeg, Int.reduceLT, Int.reduceLE, ecl2, iZ_one]
              refine ⟨_, rfl, hI.1.pI rfl, (hI.2.or (rC_lt e2) (m := 2 ^ p) (Nat.pow_lt_pow_right (n := 9) (by decide) hp9)).cg fun k q hk => ⟨?_, ?_⟩⟩
              · rintro ((a | ⟨a, c', w', h1, h2⟩) | ⟨a, b⟩)
                · exact .inl a
                · exact .inr ⟨a, c', w', by omega, h2⟩
                · rw [Nat.testBit_two_pow, decide_eq_true_iff] at b
                  subst b
                  exact .inr ⟨by rw [a, ← hra]; exact e3, c, w, by omega, hw, hp, e1, e2, a.symm⟩
              · rintro (a | ⟨a, c', w', h1, h2, h3, h4, h5, h6⟩)
                · exact .inl (.inl a)
                · by_cases ew : c' = c ∧ w' = w
                  · obtain ⟨x1, x2⟩ := ew
                    subst x1; subst x2
                    exact .inr ⟨h6.symm, by rw [Nat.testBit_two_pow, decide_eq_true_iff]; omega⟩
                  · exact .inl (.inr ⟨a, c', w', by omega, h2, h3, h4, h5, h6⟩)
            · rw [if_neg e3]
              exact ⟨M', rfl, hno (fun z => e3 (by rw [hra]; exact z.2.2))⟩
          · rw [if_neg e2]
            exact ⟨M', rfl, hno (fun z => e2 z.2.1)⟩
        · rw [if_neg e1]
          exact ⟨M', rfl, hno (fun z => e1 z.1)⟩) (a := 0) (M := M') (by omega) ⟨hI.1, hI.2.cg fun k q hk => ⟨fun z => z.imp id (fun ⟨a, c', w', h1, h2⟩ => ⟨a, c', w', by omega, h2⟩), fun z => z.imp id (fun ⟨a, c', w', h1, h2⟩ => ⟨a, c', w', by omega, h2⟩)⟩⟩
      rw [hp]
      refine ⟨M2, G1.trans ?_, G2, G3.cg fun k q hk => ⟨fun z => z.imp id (fun ⟨a, c', w', h1, h2⟩ => ⟨a, c', w', by omega, h2⟩), fun z => z.imp id (fun ⟨a, c', w', h1, h2, h3⟩ => ⟨a, c', w', by omega, h2, h3⟩)⟩⟩
      rw [xfix_unf, sX12_swells_61]
      simp (disch := omega) only [xk_none, xk_inl, xk_inr, xk_ite, xri_v, xrl_v, xrv_v, xb_z0, xb_z1, xb_b2, if_true, if_false, ite_true, ite_false, iZ_lit, iZ_m1, iZ_m99, iZ_m8, iZ_add, iZ_sub, iZ_mul, iZ_neg, nz0, nzi, iZ_lt, iZ_le, iZ_inj, b2_z, b2_o, ite_bPz, ite_bPo, xb_bP, iZ_xin, if_pos, ite_self, ↓reduceIte, Int.reduceAdd, Int.reduceSub, Int.reduceMul, Int.reduceNeg, Int.reduceLT, Int.reduceLE]) (a := 0) (M := M1) (by omega) ⟨H2, H3.cg fun k q hk => ⟨.inl, fun z => z.elim id (fun ⟨a, c', w', h1, h2⟩ => by omega)⟩⟩
  refine ⟨M2, h0.trans (H1.trans (H4.trans (H5.trans ?_))), H6, H7⟩
  rw [xfix_unf, sX12_swells_45]
  simp (disch := omega) only [xk_none, xk_inl, xk_inr, xk_ite, xri_v, xrl_v, xrv_v, xb_z0, xb_z1, xb_b2, if_true, if_false, ite_true, ite_false, iZ_lit, iZ_m1, iZ_m99, iZ_m8, iZ_add, iZ_sub, iZ_mul, iZ_neg, nz0, nzi, iZ_lt, iZ_le, iZ_inj, b2_z, b2_o, ite_bPz, ite_bPo, xb_bP, iZ_xin, if_pos, ite_self, ↓reduceIte, Int.reduceAdd, Int.reduceSub, Int.reduceMul, Int.reduceNeg, Int.reduceLT, Int.reduceLE]
