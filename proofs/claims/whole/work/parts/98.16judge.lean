/-! the class: a record is judged -/
theorem jB_bit (A : dA) {heap half way q : Nat} : ∀ n, (jB A heap half way n).testBit q = true ↔ ∃ p, p < n ∧ half.testBit p = true ∧ (barS A (6 * p + way)).testBit q = true ∧ heap.testBit q = true ∧ half.testBit q = false
  | 0 => by unfold jB; rw [Nat.zero_testBit]; exact ⟨fun z => Bool.noConfusion z, fun ⟨p, h, _⟩ => by omega⟩
  | n + 1 => by
    unfold jB
    by_cases y : half.testBit n = true
    · rw [if_pos y, Nat.testBit_or, Bool.or_eq_true, jB_bit A n, ndn_bit, Nat.testBit_and, Bool.and_eq_true, Bool.and_eq_true, Bool.not_eq_true']
      constructor
      · rintro (⟨p, p1, p2⟩ | ⟨⟨p1, p2⟩, p3⟩)
        · exact ⟨p, by omega, p2⟩
        · exact ⟨n, by omega, y, p1, p2, p3⟩
      · rintro ⟨p, p1, p2, p3, p4, p5⟩
        by_cases e : p = n
        · subst e; exact .inr ⟨⟨p3, p4⟩, p5⟩
        · exact .inl ⟨p, by omega, p2, p3, p4, p5⟩
    · rw [if_neg y, jB_bit A n]
      constructor
      · exact fun ⟨p, p1, p2⟩ => ⟨p, by omega, p2⟩
      · refine fun ⟨p, p1, p2, p3⟩ => ⟨p, ?_, p2, p3⟩
        by_cases e : p = n
        · subst e; exact absurd p2 y
        · omega
theorem jB_eq {A : dA} {heap half way : Nat} : ndn (bwy (aP A) (barS A) half way &&& heap) half = jB A heap half way (aP A) := by
  refine Nat.eq_of_testBit_eq fun q => Bool.eq_iff_iff.mpr ?_
  rw [jB_bit, ndn_bit, Nat.testBit_and, Bool.and_eq_true, Bool.and_eq_true, Bool.not_eq_true']
  unfold bwy
  rw [msk_bit]
  constructor
  · rintro ⟨⟨⟨_, p, p1, p2, p3⟩, p4⟩, p5⟩
    exact ⟨p, p1, p2, p3, p4, p5⟩
  · rintro ⟨p, p1, p2, p3, p4, p5⟩
    exact ⟨⟨⟨((msk_bit _ 9 q).mp p3).1, p, p1, p2, p3⟩, p4⟩, p5⟩
/-- heaps as the class keeps them: 0 beyond the parts -/
def gx (A : dA) (G : Nat → Nat) (p : Nat) : Nat := if p < aP A then G p else 0
abbrev jsF (r : xR) (j : Nat) : Prop := r = (35, 1) ∨ (r = (3, 1) ∧ j = 1) ∨ (r = (4, 0) ∧ (j = 7 ∨ j = 8 ∨ j = 9))
theorem jLw_P {half P : Nat} (h0 : half ≠ 0) (h : half < 2 ^ P) (hP : P ≤ 9) : jLw half 9 = jLw half P ∧ jLw half 9 < P := by
  have h1 := jLw_lt h0 h
  have h2 : half.testBit (jLw half P) = true := lst_is (fun p => half.testBit p = true) P h1
  have e : jLw half 9 = jLw half P := lst_eq (by omega) (fun i hi => lst_no (fun p => half.testBit p = true) P i hi) (fun _ => h2)
  exact ⟨e, by omega⟩
theorem ha_is {A : dA} {G : Nat → Nat} {half : Nat} (hP : aP A ≤ 9) (h1 : 1 ≤ half) (h2 : half < 2 ^ aP A) (hG : ∀ p, p < aP A → G p < 2 ^ aP A) : haA (gx A G) half = @ite _ (jHf A (G (jLw half 9)) half) (Classical.propDecidable _) (G (jLw half 9) : Int) (-1) := by
  have h512 := Nat.lt_of_lt_of_le h2 (pow9 hP).2
  obtain ⟨l1, l2⟩ := jLw_P (by omega) h2 hP
  have hg := hG _ l2
  unfold haA jHf
  rw [Int.toNat_natCast]
  have e : gx A G (jLw half 9) = G (jLw half 9) := if_pos l2
  rw [e]
  generalize G (jLw half 9) = v at *
  by_cases y : ndn half v = 0
  · have := ndn_sub y
    by_cases z : half = v
    · rw [if_neg (fun q => q.2.2.1 z), if_neg (fun q => by omega)]
    · rw [if_pos ⟨by omega, by omega, z, y⟩, if_pos ⟨by omega, hg, y⟩]
  · rw [if_neg (fun q => y q.2.2.2), if_neg (fun q => y q.2.2)]
theorem x_judgeStep {M : xM} {A : dA} {G : Nat → Nat} {half way i : Nat} {n : Int} (hA : aOk A) (hJ : cJt M A) (hW : cWy M 0 (aP A) (barS A)) (h1 : 1 ≤ half) (h2 : half < 2 ^ aP A) (hw : way < 6) (hG : ∀ p, p < 9 → xI M (35, 1) p = iZ (gx A G p)) (hg : ∀ p, p < aP A → G p < 2 ^ aP A) (hc : xI M (3, 1) 1 = iZ n) (f7 : xI M (4, 0) 7 = iZ i) (f8 : xI M (4, 0) 8 = iZ 0) (f9 : xI M (4, 0) 9 = iZ (-1)) : ∃ M', fX4_judgeStep [.inr (.inr (4, 0)), .inr (.inr (10, 0)), .inl (iZ (half)), .inl (iZ (way))] M = some (none, M') ∧ xSm jsF M M' ∧ (xI M' (4, 0) 7 = iZ (if (jOne A G half way).1 = 0 then (i : Int) + 1 else i) ∧ xI M' (4, 0) 8 = iZ (jOne A G half way).1 ∧ xI M' (4, 0) 9 = iZ (jOne A G half way).2.1) ∧ (∀ p, p < 9 → xI M' (35, 1) p = iZ (gx A (jOne A G half way).2.2 p)) ∧ (∀ p, p < aP A → (jOne A G half way).2.2 p < 2 ^ aP A) ∧ (∃ m, xI M' (3, 1) 1 = iZ m) ∧ ((jOne A G half way).1 = 0 → (jOne A G half way).2.1 = -1) ∧ 0 ≤ (jOne A G half way).1 ∧ (jOne A G half way).1 ≤ 3 := by
  have hP := hA.P
  have h512 := Nat.lt_of_lt_of_le h2 (pow9 hP).2
  have hgx : ∀ p, p < 9 → xI M (35, 1) p = iZ (gx A G p) ∧ gx A G p < 512 := fun p hp => ⟨hG p hp, by
    unfold gx
    split
    · exact Nat.lt_of_lt_of_le (hg p ‹_›) (pow9 hP).2
    · omega⟩
  have hA1 := x_heapAround (M := M) (k := 1) (G := gx A G) (half := (half : Int)) (by unfold r32; omega) hgx
  rw [ha_is hP h1 h2 hg] at hA1
  obtain ⟨l1, l2⟩ := jLw_P (by omega) h2 hP
  have hv := hg _ l2
  obtain ⟨heap, eh⟩ : ∃ heap, heap = G (jLw half 9) := ⟨_, rfl⟩
  have eO : jOne A G half way = jH A G heap half way := by rw [eh]; rfl
  rw [eO]
  rw [← eh] at hA1 hv
  have hv512 := Nat.lt_of_lt_of_le hv (pow9 hP).2
  by_cases y : jHf A heap half
  · rw [if_pos y] at hA1
    have hB := x_barring hW hP h2 hw
    have hS := x_stuck (M := M) hA hJ hv512 y.2.2
    have hbl := bwy_lt (aP A) (barS A) half way
    have hjb : ndn (bwy (aP A) (barS A) half way &&& heap) half = jB A heap half way (aP A) := jB_eq
    have hjl : jB A heap half way (aP A) < 512 := Nat.lt_of_lt_of_le (jB_lt A hv _) (pow9 hP).2
    by_cases e0 : jB A heap half way (aP A) = 0
    · by_cases ej : jJt A heap half < aJ A
      · have eR : jH A G heap half way = (3, (jJt A heap half : Int), G) := by unfold jH; rw [if_pos y, if_pos e0, if_pos ej]
        rw [eR]
        rw [if_pos ej] at hS
        rw [e0] at hjb
        have := hA.J
        refine ⟨xpI (xpI M (4, 0) 8 (iZ 3)) (4, 0) 9 (iZ (jJt A heap half : Int)), ?_, (xSm.rf.pI (.inr (.inr ⟨rfl, by omega⟩))).pI (.inr (.inr ⟨rfl, by omega⟩)), ⟨?_, ?_, ?_⟩, fun p hp => ?_, hg, ⟨n, ?_⟩, fun z => by omega, by omega, by omega⟩
        · generalize jJt A heap half = jj at *
          generalize bwy (aP A) (barS A) half way = bb at *
          show xfix gX4_judgeStep (0, [some (.inr (.inr (4, 0))), some (.inr (.inr (10, 0))), some (.inl (iZ (half))), some (.inl (iZ (way))), none, none, none], [], M) = _; rw [xfix_unf, sX4_judgeStep_0]
          simp (disch := omega) only [xk_none, xk_inl, xk_inr, xk_ite, xri_v, xrl_v, xrv_v, xb_z0, xb_z1, xb_b2, if_true, if_false, ite_true, ite_false, iZ_lit, iZ_m1, iZ_m99, iZ_m8, iZ_add, iZ_sub, iZ_mul, iZ_neg, nz0, nzi, iZ_lt, iZ_le, iZ_inj, b2_z, b2_o, ite_bPz, ite_bPo, xb_bP, iZ_xin, if_pos, ite_self, ↓reduceIte, Int.reduceAdd, Int.reduceSub, Int.reduceMul, Int.reduceNeg, Int.reduceLT, Int.reduceLE, if_neg, nS, iZ_clampN, iZ_bit, iZ_one, iZ_and, iZ_or, iZ_ndn, hA1, hB, hS, hjb]
        · rw [pR_ne (by omega), pR_ne (by omega), f7, if_neg (show ¬ (3 : Int) = 0 by decide)]
        · rw [pR_ne (by omega), pR_eq]
        · rw [pR_eq]
        · rw [pR_nr (by omega), pR_nr (by omega)]; exact hG p hp
        · rw [pR_nr (by omega), pR_nr (by omega)]; exact hc
      · have eR : jH A G heap half way = (0, -1, fun p => if heap.testBit p = true then (if half.testBit p = true then half else ndn heap half) else G p) := by unfold jH; rw [if_pos y, if_pos e0, if_neg ej]
        rw [eR]
        rw [if_neg ej] at hS
        rw [e0] at hjb
        obtain ⟨M1, a1, a2, a3, a4⟩ := x_divide (M := M) (k := 1) (heap := heap) (half := half) (G := gx A G) hv512 h512 hc hG
        have g7 : xI M1 (4, 0) 7 = iZ i := by rw [(a2 (4, 0) 7 (by simp)).1]; exact f7
        refine ⟨xpI M1 (4, 0) 7 (iZ ((i : Int) + 1)), ?_, (a2.wk fun r j z => z.imp id fun z => .inl z).pI (.inr (.inr ⟨rfl, by omega⟩)), ⟨?_, ?_, ?_⟩, fun p hp => ?_, fun p hp => ?_, ⟨n + 1, ?_⟩, fun _ => rfl, by omega, by omega⟩
        · generalize bwy (aP A) (barS A) half way = bb at *
          show xfix gX4_judgeStep (0, [some (.inr (.inr (4, 0))), some (.inr (.inr (10, 0))), some (.inl (iZ (half))), some (.inl (iZ (way))), none, none, none], [], M) = _; rw [xfix_unf, sX4_judgeStep_0]
          simp (disch := omega) only [xk_none, xk_inl, xk_inr, xk_ite, xri_v, xrl_v, xrv_v, xb_z0, xb_z1, xb_b2, if_true, if_false, ite_true, ite_false, iZ_lit, iZ_m1, iZ_m99, iZ_m8, iZ_add, iZ_sub, iZ_mul, iZ_neg, nz0, nzi, iZ_lt, iZ_le, iZ_inj, b2_z, b2_o, ite_bPz, ite_bPo, xb_bP, iZ_xin, if_pos, ite_self, ↓reduceIte, Int.reduceAdd, Int.reduceSub, Int.reduceMul, Int.reduceNeg, Int.reduceLT, Int.reduceLE, if_neg, nS, iZ_clampN, iZ_bit, iZ_one, iZ_and, iZ_or, iZ_ndn, hA1, hB, hS, hjb, a1, g7]
        · rw [pR_eq, if_pos rfl]
        · rw [pR_ne (by omega), (a2 (4, 0) 8 (by simp)).1]; exact f8
        · rw [pR_ne (by omega), (a2 (4, 0) 9 (by simp)).1]; exact f9
        · rw [pR_nr (by omega), a4 p hp]
          congr 2
          have hsub : half.testBit p = true → heap.testBit p = true := (ndn_z.mp y.2.2) p
          have hpp : heap.testBit p = true → p < aP A := fun z => bit_lt hv z
          unfold gx
          dsimp only
          by_cases z1 : half.testBit p = true
          · rw [if_pos z1, if_pos (hpp (hsub z1)), if_pos (hsub z1), if_pos z1]
          · rw [if_neg z1]
            by_cases z2 : heap.testBit p = true
            · rw [if_pos z2, if_pos (hpp z2), if_pos z2, if_neg z1]
            · rw [if_neg z2, if_neg z2]
        · show (if heap.testBit p = true then (if half.testBit p = true then half else ndn heap half) else G p) < 2 ^ aP A
          split
          · split
            · exact h2
            · exact Nat.lt_of_le_of_lt (ndn_le heap half) hv
          · exact hg p hp
        · rw [pR_nr (by omega)]; exact a3
    · have eR : jH A G heap half way = (2, (jLw (jB A heap half way (aP A)) (aP A) : Int), G) := by unfold jH; rw [if_pos y, if_neg e0]
      rw [eR]
      have hO := x_leastOf (M := xpI M (4, 0) 8 (iZ 2)) (b := jB A heap half way (aP A)) (by omega)
      obtain ⟨k1, k2⟩ := jLw_P e0 (jB_lt A hv _) hP
      rw [if_pos (by omega), k1] at hO
      have := hA.J
      refine ⟨xpI (xpI M (4, 0) 8 (iZ 2)) (4, 0) 9 (iZ (jLw (jB A heap half way (aP A)) (aP A) : Int)), ?_, (xSm.rf.pI (.inr (.inr ⟨rfl, by omega⟩))).pI (.inr (.inr ⟨rfl, by omega⟩)), ⟨?_, ?_, ?_⟩, fun p hp => ?_, hg, ⟨n, ?_⟩, fun z => by omega, by omega, by omega⟩
      · generalize jB A heap half way (aP A) = jb at *
        generalize jLw jb (aP A) = jl at *
        generalize bwy (aP A) (barS A) half way = bb at *
        by_cases ej : jJt A heap half < aJ A
        · rw [if_pos ej] at hS
          generalize jJt A heap half = jj at *
          show xfix gX4_judgeStep (0, [some (.inr (.inr (4, 0))), some (.inr (.inr (10, 0))), some (.inl (iZ (half))), some (.inl (iZ (way))), none, none, none], [], M) = _; rw [xfix_unf, sX4_judgeStep_0]
          simp (disch := omega) only [xk_none, xk_inl, xk_inr, xk_ite, xri_v, xrl_v, xrv_v, xb_z0, xb_z1, xb_b2, if_true, if_false, ite_true, ite_false, iZ_lit, iZ_m1, iZ_m99, iZ_m8, iZ_add, iZ_sub, iZ_mul, iZ_neg, nz0, nzi, iZ_lt, iZ_le, iZ_inj, b2_z, b2_o, ite_bPz, ite_bPo, xb_bP, iZ_xin, if_pos, ite_self, ↓reduceIte, Int.reduceAdd, Int.reduceSub, Int.reduceMul, Int.reduceNeg, Int.reduceLT, Int.reduceLE, if_neg, nS, iZ_clampN, iZ_bit, iZ_one, iZ_and, iZ_or, iZ_ndn, hA1, hB, hS, hjb, hO]
        · rw [if_neg ej] at hS
          show xfix gX4_judgeStep (0, [some (.inr (.inr (4, 0))), some (.inr (.inr (10, 0))), some (.inl (iZ (half))), some (.inl (iZ (way))), none, none, none], [], M) = _; rw [xfix_unf, sX4_judgeStep_0]
          simp (disch := omega) only [xk_none, xk_inl, xk_inr, xk_ite, xri_v, xrl_v, xrv_v, xb_z0, xb_z1, xb_b2, if_true, if_false, ite_true, ite_false, iZ_lit, iZ_m1, iZ_m99, iZ_m8, iZ_add, iZ_sub, iZ_mul, iZ_neg, nz0, nzi, iZ_lt, iZ_le, iZ_inj, b2_z, b2_o, ite_bPz, ite_bPo, xb_bP, iZ_xin, if_pos, ite_self, ↓reduceIte, Int.reduceAdd, Int.reduceSub, Int.reduceMul, Int.reduceNeg, Int.reduceLT, Int.reduceLE, if_neg, nS, iZ_clampN, iZ_bit, iZ_one, iZ_and, iZ_or, iZ_ndn, hA1, hB, hS, hjb, hO]
      · rw [pR_ne (by omega), pR_ne (by omega), f7, if_neg (show ¬ (2 : Int) = 0 by decide)]
      · rw [pR_ne (by omega), pR_eq]
      · rw [pR_eq]
      · rw [pR_nr (by omega), pR_nr (by omega)]; exact hG p hp
      · rw [pR_nr (by omega), pR_nr (by omega)]; exact hc
  · rw [if_neg y] at hA1
    have eR : jH A G heap half way = (1, -1, G) := by unfold jH; rw [if_neg y]
    rw [eR]
    refine ⟨xpI M (4, 0) 8 (iZ 1), ?_, xSm.rf.pI (.inr (.inr ⟨rfl, by omega⟩)), ⟨?_, ?_, ?_⟩, fun p hp => ?_, hg, ⟨n, ?_⟩, fun z => by omega, by omega, by omega⟩
    · show xfix gX4_judgeStep (0, [some (.inr (.inr (4, 0))), some (.inr (.inr (10, 0))), some (.inl (iZ (half))), some (.inl (iZ (way))), none, none, none], [], M) = _; rw [xfix_unf, sX4_judgeStep_0]
      simp (disch := omega) only [xk_none, xk_inl, xk_inr, xk_ite, xri_v, xrl_v, xrv_v, xb_z0, xb_z1, xb_b2, if_true, if_false, ite_true, ite_false, iZ_lit, iZ_m1, iZ_m99, iZ_m8, iZ_add, iZ_sub, iZ_mul, iZ_neg, nz0, nzi, iZ_lt, iZ_le, iZ_inj, b2_z, b2_o, ite_bPz, ite_bPo, xb_bP, iZ_xin, if_pos, ite_self, ↓reduceIte, Int.reduceAdd, Int.reduceSub, Int.reduceMul, Int.reduceNeg, Int.reduceLT, Int.reduceLE, if_neg, nS, iZ_clampN, iZ_bit, iZ_one, iZ_and, iZ_or, iZ_ndn, hA1]
    · rw [pR_ne (by omega), f7, if_neg (show ¬ (1 : Int) = 0 by decide)]
    · rw [pR_eq]
    · rw [pR_ne (by omega)]; exact f9
    · rw [pR_nr (by omega)]; exact hG p hp
    · rw [pR_nr (by omega)]; exact hc
theorem cJt.sm {M M' : xM} {A : dA} {P : xR → Nat → Prop} (h : cJt M A) (hs : xSm P M M') (h1 : ¬ P (5, 0) 1) (h2 : ∀ j, ¬ P (41, 0) j) (h3 : ∀ j, ¬ P (42, 0) j) : cJt M' A := ⟨by rw [(hs _ _ h1).1]; exact h.1, fun j hj => ⟨by rw [(hs _ _ (h2 j)).1]; exact (h.2 j hj).1, by rw [(hs _ _ (h3 j)).1]; exact (h.2 j hj).2⟩⟩
theorem x_judgeRun {A : dA} {s : rS} (hA : aOk A) : ∀ (f i : Nat) (G : Nat → Nat) (K : xM), s.2.1 + 1 ≤ i + f → i ≤ s.2.1 → s.2.1 ≤ 16 → cJt K A → cWy K 0 (aP A) (barS A) → cRc K A s → (∀ p, p < 9 → xI K (35, 1) p = iZ (gx A G p)) → (∀ p, p < aP A → G p < 2 ^ aP A) → (∃ n, xI K (3, 1) 1 = iZ n) → xI K (4, 0) 7 = iZ i → xI K (4, 0) 8 = iZ 0 → xI K (4, 0) 9 = iZ (-1) → ∃ K', xfix gX4_judge (39, [some (.inr (.inr (4, 0))), some (.inr (.inr (10, 0))), some (.inl (iZ (i)))], [], K) = some (none, K') ∧ xSm jsF K K' ∧ xI K' (4, 0) 7 = iZ (jRun A s f i G (-1)).1 ∧ xI K' (4, 0) 8 = iZ (jRun A s f i G (-1)).2.1 ∧ xI K' (4, 0) 9 = iZ (jRun A s f i G (-1)).2.2 := by
  intro f
  induction f with
  | zero => intro i G K h1 h2; omega
  | succ f ih =>
    intro i G K h1 h2 h3 hJ hW hR hG hg hc f7 f8 f9
    obtain ⟨n, hn⟩ := hc
    have f5 := hR.1.1
    have eJ : jRun A s (f + 1) i G (-1) = if s.2.1 ≤ i then ((i : Int), 0, -1) else if (jOne A G (s.2.2.1 i) (s.2.2.2 i)).1 = 0 then jRun A s f (i + 1) (jOne A G (s.2.2.1 i) (s.2.2.2 i)).2.2 (jOne A G (s.2.2.1 i) (s.2.2.2 i)).2.1 else ((i : Int), (jOne A G (s.2.2.1 i) (s.2.2.2 i)).1, (jOne A G (s.2.2.1 i) (s.2.2.2 i)).2.1) := rfl
    rw [eJ]
    by_cases e : s.2.1 ≤ i
    · rw [if_pos e]
      refine ⟨K, ?_, xSm.rf, f7, f8, f9⟩
      generalize s.2.1 = m at *
      rw [xfix_unf, sX4_judge_39]
      simp (disch := omega) only [xk_none, xk_inl, xk_inr, xk_ite, xri_v, xrl_v, xrv_v, xb_z0, xb_z1, xb_b2, if_true, if_false, ite_true, ite_false, iZ_lit, iZ_m1, iZ_m99, iZ_m8, iZ_add, iZ_sub, iZ_mul, iZ_neg, nz0, nzi, iZ_lt, iZ_le, iZ_inj, b2_z, b2_o, ite_bPz, ite_bPo, xb_bP, iZ_xin, if_pos, ite_self, ↓reduceIte, Int.reduceAdd, Int.reduceSub, Int.reduceMul, Int.reduceNeg, Int.reduceLT, Int.reduceLE, if_neg, f5]
    · rw [if_neg e]
      obtain ⟨⟨r1, r2⟩, r3, r4, r5⟩ := hR.2 i (by omega)
      obtain ⟨K1, a1, a2, ⟨a3, a4, a5⟩, a6, a7, a8, a9, a10⟩ := x_judgeStep hA hJ hW r3 r4 r5 hG hg hn f7 f8 f9
      have hR1 : cRc K1 A s := ⟨⟨by rw [(a2 (4, 0) 5 (by simp)).1]; exact hR.1.1, hR.1.2⟩, fun j hj => by rw [(a2 (36, 0) j (by simp)).1, (a2 (37, 0) j (by simp)).1]; exact hR.2 j hj⟩
      have t1 : xfix gX4_judge (39, [some (.inr (.inr (4, 0))), some (.inr (.inr (10, 0))), some (.inl (iZ (i)))], [], K) = xfix gX4_judge (39, [some (.inr (.inr (4, 0))), some (.inr (.inr (10, 0))), some (.inl (iZ (((i + 1 : Nat)))))], [], K1) := by
        rw [nS]
        generalize s.2.1 = m at *
        generalize s.2.2.1 i = hf at *
        generalize s.2.2.2 i = wy at *
        rw [xfix_unf, sX4_judge_39]
        simp (disch := omega) only [xk_none, xk_inl, xk_inr, xk_ite, xri_v, xrl_v, xrv_v, xb_z0, xb_z1, xb_b2, if_true, if_false, ite_true, ite_false, iZ_lit, iZ_m1, iZ_m99, iZ_m8, iZ_add, iZ_sub, iZ_mul, iZ_neg, nz0, nzi, iZ_lt, iZ_le, iZ_inj, b2_z, b2_o, ite_bPz, ite_bPo, xb_bP, iZ_xin, if_pos, ite_self, ↓reduceIte, Int.reduceAdd, Int.reduceSub, Int.reduceMul, Int.reduceNeg, Int.reduceLT, Int.reduceLE, if_neg, f5, f8, r1, r2, iZ_clampN, a1]
      by_cases e0 : (jOne A G (s.2.2.1 i) (s.2.2.2 i)).1 = 0
      · rw [if_pos e0, a9 e0]
        rw [e0, if_pos rfl] at a3
        rw [e0] at a4
        rw [a9 e0] at a5
        obtain ⟨K2, b1, b2, b3⟩ := ih (i + 1) (jOne A G (s.2.2.1 i) (s.2.2.2 i)).2.2 K1 (by omega) (by omega) h3 (hJ.sm a2 (by simp) (by simp) (by simp)) (hW.sm a2 (by simp)) hR1 a6 a7 a8 a3 a4 a5
        exact ⟨K2, t1.trans b1, a2.tr b2, b3⟩
      · rw [if_neg e0]
        rw [if_neg e0] at a3
        refine ⟨K1, t1.trans ?_, a2, a3, a4, a5⟩
        have g5 := hR1.1.1
        rw [nS]
        generalize s.2.1 = m at *
        generalize (jOne A G (s.2.2.1 i) (s.2.2.2 i)).1 = y at *
        by_cases z : m ≤ i + 1
        · rw [xfix_unf, sX4_judge_39]
          simp (disch := omega) only [xk_none, xk_inl, xk_inr, xk_ite, xri_v, xrl_v, xrv_v, xb_z0, xb_z1, xb_b2, if_true, if_false, ite_true, ite_false, iZ_lit, iZ_m1, iZ_m99, iZ_m8, iZ_add, iZ_sub, iZ_mul, iZ_neg, nz0, nzi, iZ_lt, iZ_le, iZ_inj, b2_z, b2_o, ite_bPz, ite_bPo, xb_bP, iZ_xin, if_pos, ite_self, ↓reduceIte, Int.reduceAdd, Int.reduceSub, Int.reduceMul, Int.reduceNeg, Int.reduceLT, Int.reduceLE, if_neg, g5]
        · rw [xfix_unf, sX4_judge_39]
          simp (disch := omega) only [xk_none, xk_inl, xk_inr, xk_ite, xri_v, xrl_v, xrv_v, xb_z0, xb_z1, xb_b2, if_true, if_false, ite_true, ite_false, iZ_lit, iZ_m1, iZ_m99, iZ_m8, iZ_add, iZ_sub, iZ_mul, iZ_neg, nz0, nzi, iZ_lt, iZ_le, iZ_inj, b2_z, b2_o, ite_bPz, ite_bPo, xb_bP, iZ_xin, if_pos, ite_self, ↓reduceIte, Int.reduceAdd, Int.reduceSub, Int.reduceMul, Int.reduceNeg, Int.reduceLT, Int.reduceLE, if_neg, g5, a4]
abbrev jgF (r : xR) (j : Nat) : Prop := r = (35, 1) ∨ (r = (3, 1) ∧ j = 1) ∨ (r = (4, 0) ∧ 6 ≤ j)
theorem x_judge {M : xM} {A : dA} {s : rS} (hA : aOk A) (f0 : xI M (5, 0) 0 = iZ (aP A)) (hJ : cJt M A) (hW : cWy M 0 (aP A) (barS A)) (hR : cRc M A s) : ∃ M', fX4_judge [.inr (.inr (4, 0)), .inr (.inr (10, 0))] M = some (none, M') ∧ xSm jgF M M' ∧ xI M' (4, 0) 6 = iZ s.2.1 ∧ xI M' (4, 0) 7 = iZ (jAll A s).1 ∧ xI M' (4, 0) 8 = iZ (jAll A s).2.1 ∧ xI M' (4, 0) 9 = iZ (jAll A s).2.2 := by
  have hP := hA.P
  obtain ⟨M1, a1, a2, a3, a4⟩ := x_gather (M := M) (k := 1) (P := aP A) hP
  obtain ⟨M2, e2⟩ : ∃ M2, M2 = xpI (xpI (xpI (xpI M1 (4, 0) 6 (iZ s.2.1)) (4, 0) 7 (iZ 0)) (4, 0) 8 (iZ 0)) (4, 0) 9 (iZ (-1)) := ⟨_, rfl⟩
  have s12 : xSm (fun r j => r = (4, 0) ∧ 6 ≤ j) M1 M2 := by
    rw [e2]
    exact (((xSm.rf.pI ⟨rfl, by omega⟩).pI ⟨rfl, by omega⟩).pI ⟨rfl, by omega⟩).pI ⟨rfl, by omega⟩
  have s2 : xSm jgF M M2 := (a2.wk fun r j z => z.imp id fun z => .inl z).tr (s12.wk fun r j z => .inr (.inr z))
  have g5 : xI M1 (4, 0) 5 = iZ s.2.1 := by rw [(a2 (4, 0) 5 (by simp)).1]; exact hR.1.1
  have hR2 : cRc M2 A s := ⟨⟨by rw [(s12 (4, 0) 5 (by simp)).1]; exact g5, hR.1.2⟩, fun j hj => by rw [(s2 (36, 0) j (by simp)).1, (s2 (37, 0) j (by simp)).1]; exact hR.2 j hj⟩
  obtain ⟨M3, b1, b2, b3, b4, b5⟩ := x_judgeRun (s := s) hA 17 0 (fun _ => 2 ^ aP A - 1) M2 (by have := hR.1.2; omega) (by omega) hR.1.2 (hJ.sm s2 (by simp) (by simp) (by simp)) (hW.sm s2 (by simp)) hR2 (fun p hp => by
    rw [(s12 (35, 1) p (by simp)).1, a4 p hp]; rfl) (fun p hp => by have := Nat.two_pow_pos (aP A); show 2 ^ aP A - 1 < _; omega) ⟨0, by rw [(s12 (3, 1) 1 (by simp)).1]; exact a3⟩ (by rw [e2, pR_ne (by omega), pR_ne (by omega), pR_eq]; rfl) (by rw [e2, pR_ne (by omega), pR_eq]) (by rw [e2, pR_eq])
  refine ⟨M3, ?_, s2.tr (b2.wk fun r j z => z.imp id fun z => z.imp id fun z => ⟨z.1, by omega⟩), ?_, b3, b4, b5⟩
  · refine Eq.trans ?_ b1
    have z0 : ((0 : Nat) : Int) = 0 := rfl
    rw [e2, z0]
    show xfix gX4_judge (0, [some (.inr (.inr (4, 0))), some (.inr (.inr (10, 0))), none], [], M) = _; rw [xfix_unf, sX4_judge_0]
    simp (disch := omega) only [xk_none, xk_inl, xk_inr, xk_ite, xri_v, xrl_v, xrv_v, xb_z0, xb_z1, xb_b2, if_true, if_false, ite_true, ite_false, iZ_lit, iZ_m1, iZ_m99, iZ_m8, iZ_add, iZ_sub, iZ_mul, iZ_neg, nz0, nzi, iZ_lt, iZ_le, iZ_inj, b2_z, b2_o, ite_bPz, ite_bPo, xb_bP, iZ_xin, if_pos, ite_self, ↓reduceIte, Int.reduceAdd, Int.reduceSub, Int.reduceMul, Int.reduceNeg, Int.reduceLT, Int.reduceLE, if_neg, f0, a1, g5]
  · rw [(b2 (4, 0) 6 (by simp)).1, e2, pR_ne (by omega), pR_ne (by omega), pR_ne (by omega), pR_eq]
theorem x_answer {M : xM} {w a6 a7 a8 a9 : Int} (hw : r32 w) (h6 : r32 a6) (f6 : xI M (4, 0) 6 = iZ a6) (f7 : xI M (4, 0) 7 = iZ a7) (f8 : xI M (4, 0) 8 = iZ a8) (f9 : xI M (4, 0) 9 = iZ a9) : fX4_answer [.inr (.inr (4, 0)), .inl (iZ (w))] M = some (some (.inl (iZ (if a6 = -1 then -1 else if w = 0 then a7 else if w = 1 then a6 else if w = 2 then a8 else if w = 3 then a9 else -1))), M) := by
  unfold r32 at hw h6
  by_cases e : a6 = -1
  · rw [if_pos e]
    show xfix gX4_answer (0, [some (.inr (.inr (4, 0))), some (.inl (iZ (w)))], [], M) = _; rw [xfix_unf, sX4_answer_0]
    simp (disch := omega) only [xk_none, xk_inl, xk_inr, xk_ite, xri_v, xrl_v, xrv_v, xb_z0, xb_z1, xb_b2, if_true, if_false, ite_true, ite_false, iZ_lit, iZ_m1, iZ_m99, iZ_m8, iZ_add, iZ_sub, iZ_mul, iZ_neg, nz0, nzi, iZ_lt, iZ_le, iZ_inj, b2_z, b2_o, ite_bPz, ite_bPo, xb_bP, iZ_xin, if_pos, ite_self, ↓reduceIte, Int.reduceAdd, Int.reduceSub, Int.reduceMul, Int.reduceNeg, Int.reduceLT, Int.reduceLE, if_neg, f6]
  · rw [if_neg e]
    by_cases e0 : w = 0
    · rw [if_pos e0]
      show xfix gX4_answer (0, [some (.inr (.inr (4, 0))), some (.inl (iZ (w)))], [], M) = _; rw [xfix_unf, sX4_answer_0]
      simp (disch := omega) only [xk_none, xk_inl, xk_inr, xk_ite, xri_v, xrl_v, xrv_v, xb_z0, xb_z1, xb_b2, if_true, if_false, ite_true, ite_false, iZ_lit, iZ_m1, iZ_m99, iZ_m8, iZ_add, iZ_sub, iZ_mul, iZ_neg, nz0, nzi, iZ_lt, iZ_le, iZ_inj, b2_z, b2_o, ite_bPz, ite_bPo, xb_bP, iZ_xin, if_pos, ite_self, ↓reduceIte, Int.reduceAdd, Int.reduceSub, Int.reduceMul, Int.reduceNeg, Int.reduceLT, Int.reduceLE, if_neg, f6, f7]
    · rw [if_neg e0]
      by_cases e1 : w = 1
      · rw [if_pos e1]
        show xfix gX4_answer (0, [some (.inr (.inr (4, 0))), some (.inl (iZ (w)))], [], M) = _; rw [xfix_unf, sX4_answer_0]
        simp (disch := omega) only [xk_none, xk_inl, xk_inr, xk_ite, xri_v, xrl_v, xrv_v, xb_z0, xb_z1, xb_b2, if_true, if_false, ite_true, ite_false, iZ_lit, iZ_m1, iZ_m99, iZ_m8, iZ_add, iZ_sub, iZ_mul, iZ_neg, nz0, nzi, iZ_lt, iZ_le, iZ_inj, b2_z, b2_o, ite_bPz, ite_bPo, xb_bP, iZ_xin, if_pos, ite_self, ↓reduceIte, Int.reduceAdd, Int.reduceSub, Int.reduceMul, Int.reduceNeg, Int.reduceLT, Int.reduceLE, if_neg, f6]
      · rw [if_neg e1]
        by_cases e2 : w = 2
        · rw [if_pos e2]
          show xfix gX4_answer (0, [some (.inr (.inr (4, 0))), some (.inl (iZ (w)))], [], M) = _; rw [xfix_unf, sX4_answer_0]
          simp (disch := omega) only [xk_none, xk_inl, xk_inr, xk_ite, xri_v, xrl_v, xrv_v, xb_z0, xb_z1, xb_b2, if_true, if_false, ite_true, ite_false, iZ_lit, iZ_m1, iZ_m99, iZ_m8, iZ_add, iZ_sub, iZ_mul, iZ_neg, nz0, nzi, iZ_lt, iZ_le, iZ_inj, b2_z, b2_o, ite_bPz, ite_bPo, xb_bP, iZ_xin, if_pos, ite_self, ↓reduceIte, Int.reduceAdd, Int.reduceSub, Int.reduceMul, Int.reduceNeg, Int.reduceLT, Int.reduceLE, if_neg, f6, f8]
        · rw [if_neg e2]
          by_cases e3 : w = 3
          · rw [if_pos e3]
            show xfix gX4_answer (0, [some (.inr (.inr (4, 0))), some (.inl (iZ (w)))], [], M) = _; rw [xfix_unf, sX4_answer_0]
            simp (disch := omega) only [xk_none, xk_inl, xk_inr, xk_ite, xri_v, xrl_v, xrv_v, xb_z0, xb_z1, xb_b2, if_true, if_false, ite_true, ite_false, iZ_lit, iZ_m1, iZ_m99, iZ_m8, iZ_add, iZ_sub, iZ_mul, iZ_neg, nz0, nzi, iZ_lt, iZ_le, iZ_inj, b2_z, b2_o, ite_bPz, ite_bPo, xb_bP, iZ_xin, if_pos, ite_self, ↓reduceIte, Int.reduceAdd, Int.reduceSub, Int.reduceMul, Int.reduceNeg, Int.reduceLT, Int.reduceLE, if_neg, f6, f9]
          · rw [if_neg e3]
            show xfix gX4_answer (0, [some (.inr (.inr (4, 0))), some (.inl (iZ (w)))], [], M) = _; rw [xfix_unf, sX4_answer_0]
            simp (disch := omega) only [xk_none, xk_inl, xk_inr, xk_ite, xri_v, xrl_v, xrv_v, xb_z0, xb_z1, xb_b2, if_true, if_false, ite_true, ite_false, iZ_lit, iZ_m1, iZ_m99, iZ_m8, iZ_add, iZ_sub, iZ_mul, iZ_neg, nz0, nzi, iZ_lt, iZ_le, iZ_inj, b2_z, b2_o, ite_bPz, ite_bPo, xb_bP, iZ_xin, if_pos, ite_self, ↓reduceIte, Int.reduceAdd, Int.reduceSub, Int.reduceMul, Int.reduceNeg, Int.reduceLT, Int.reduceLE, if_neg, f6]
-- the tape's bytes
theorem b8_d : ∀ n : Nat, n < 256 → (iZ (n : Int)).toInt8.toInt32 = iZ (sgb n) := by decide +kernel
theorem b8_is (y : Int32) : (Int32.toInt8 ((Int32.toInt8 y).toInt32)).toInt32 = iZ (sgb (byt y)) := by
  rw [fb_byte_twice]
  have h1 : (y &&& 255).toInt8 = y.toInt8 := fa_byte_low y
  have h2 : y &&& 255 = iZ (byt y) := byt_eq y
  rw [← h1, h2]
  exact b8_d _ (byt_lt y)
theorem x_addNumber {M : xM} {N : Nat} {v : Int32} (f1 : xI M (8, 0) 1 = iZ N) (hN : N + 4 ≤ 800) : ∃ M', fX8_addNumber [.inr (.inr (8, 0)), .inl (v)] M = some (none, M') ∧ xSm (fun r j => (r = (8, 0) ∧ j = 1) ∨ (r = (47, 0) ∧ N ≤ j ∧ j < N + 4)) M M' ∧ xI M' (8, 0) 1 = iZ ((N + 4 : Nat) : Int) ∧ ∀ k, k < 4 → xI M' (47, 0) (N + k) = iZ (sgb (byt (v >>> (iZ (24 - 8 * (k : Int)) &&& iZ 31)))) := by
  obtain ⟨M2, b1, b2, b3, b4⟩ := xfor_M (sg := gX8_addNumber) (st := fun i M => (3, [some (.inr (.inr (8, 0))), some (.inl (v)), some (.inl (iZ ((24 - 8 * (i : Int)))))], [], M)) (I := fun n K => xSm (fun r j => (r = (8, 0) ∧ j = 1) ∨ (r = (47, 0) ∧ N ≤ j ∧ j < N + 4)) M K ∧ xI K (8, 0) 1 = iZ ((N + n : Nat) : Int) ∧ ∀ k, k < n → xI K (47, 0) (N + k) = iZ (sgb (byt (v >>> (iZ (24 - 8 * (k : Int)) &&& iZ 31))))) (n := 4) (fun i K hi hK => by
    obtain ⟨k1, k2, k3⟩ := hK
    refine ⟨xpI (xpI K (47, 0) (N + i) (iZ (sgb (byt (v >>> (iZ (24 - 8 * (i : Int)) &&& iZ 31)))))) (8, 0) 1 (iZ ((N + i : Nat) + 1)), ?_, (k1.pI (.inr ⟨rfl, by omega, by omega⟩)).pI (.inl ⟨rfl, rfl⟩), by rw [pR_eq]; rfl, fun k hk => ?_⟩
    · have e : 24 - 8 * (i : Int) + -8 = 24 - 8 * ((i + 1 : Nat) : Int) := by omega
      have g : ∀ x, xI (xpI K (47, 0) (N + i) x) (8, 0) 1 = iZ ((N + i : Nat) : Int) := fun x => by rw [pR_nr (by omega)]; exact k2
      have hb := b8_is (v >>> (iZ (24 - 8 * (i : Int)) &&& iZ 31))
      have hm : N + i < 800 := by omega
      have h24 : 0 ≤ 24 - 8 * (i : Int) ∧ 24 - 8 * (i : Int) ≤ 24 := by omega
      rw [← e]
      generalize sgb (byt (v >>> (iZ (24 - 8 * (i : Int)) &&& iZ 31))) = y at *
      generalize 24 - 8 * (i : Int) = u at *
      generalize N + i = m at *
      rw [xfix_unf, sX8_addNumber_3]
      simp (disch := omega) only [xk_none, xk_inl, xk_inr, xk_ite, xri_v, xrl_v, xrv_v, xb_z0, xb_z1, xb_b2, if_true, if_false, ite_true, ite_false, iZ_lit, iZ_m1, iZ_m99, iZ_m8, iZ_add, iZ_sub, iZ_mul, iZ_neg, nz0, nzi, iZ_lt, iZ_le, iZ_inj, b2_z, b2_o, ite_bPz, ite_bPo, xb_bP, iZ_xin, if_pos, ite_self, ↓reduceIte, Int.reduceAdd, Int.reduceSub, Int.reduceMul, Int.reduceNeg, Int.reduceLT, Int.reduceLE, if_neg, k2, hb, iZ_clampN, g]
    · rw [pR_nr (by omega)]
      by_cases z : k = i
      · rw [z, pR_eq]
      · rw [pR_ne (by omega)]; exact k3 k (by omega)) (a := 0) (M := M) (by omega) ⟨xSm.rf, f1, fun k hk => by omega⟩
  refine ⟨M2, ?_, b2, b3, b4⟩
  have e0 : 24 - 8 * ((0 : Nat) : Int) = 24 := rfl
  have e4 : 24 - 8 * ((4 : Nat) : Int) = -8 := rfl
  rw [e0, e4] at b1
  show xfix gX8_addNumber (0, [some (.inr (.inr (8, 0))), some (.inl (v)), none], [], M) = _; rw [xfix_unf, sX8_addNumber_0]
  simp (disch := omega) only [xk_none, xk_inl, xk_inr, xk_ite, xri_v, xrl_v, xrv_v, xb_z0, xb_z1, xb_b2, if_true, if_false, ite_true, ite_false, iZ_lit, iZ_m1, iZ_m99, iZ_m8, iZ_add, iZ_sub, iZ_mul, iZ_neg, nz0, nzi, iZ_lt, iZ_le, iZ_inj, b2_z, b2_o, ite_bPz, ite_bPo, xb_bP, iZ_xin, if_pos, ite_self, ↓reduceIte, Int.reduceAdd, Int.reduceSub, Int.reduceMul, Int.reduceNeg, Int.reduceLT, Int.reduceLE, if_neg]
  refine Eq.trans b1 ?_
  rw [xfix_unf, sX8_addNumber_3]
  simp (disch := omega) only [xk_none, xk_inl, xk_inr, xk_ite, xri_v, xrl_v, xrv_v, xb_z0, xb_z1, xb_b2, if_true, if_false, ite_true, ite_false, iZ_lit, iZ_m1, iZ_m99, iZ_m8, iZ_add, iZ_sub, iZ_mul, iZ_neg, nz0, nzi, iZ_lt, iZ_le, iZ_inj, b2_z, b2_o, ite_bPz, ite_bPo, xb_bP, iZ_xin, if_pos, ite_self, ↓reduceIte, Int.reduceAdd, Int.reduceSub, Int.reduceMul, Int.reduceNeg, Int.reduceLT, Int.reduceLE, if_neg]
theorem x_shorten {M : xM} {N : Nat} {n : Int} (f1 : xI M (8, 0) 1 = iZ N) (hN : N ≤ 800) (hn : r32 n) : fX8_shorten [.inr (.inr (8, 0)), .inl (iZ (n))] M = some (some (.inl (bP (0 ≤ n ∧ n ≤ N))), @ite _ (0 ≤ n ∧ n ≤ N) (Classical.propDecidable _) (xpI M (8, 0) 1 (iZ n)) M) := by
  unfold r32 at hn
  by_cases e : 0 ≤ n ∧ n ≤ N
  · rw [if_pos e, bP_t e]
    show xfix gX8_shorten (0, [some (.inr (.inr (8, 0))), some (.inl (iZ (n)))], [], M) = _; rw [xfix_unf, sX8_shorten_0]
    simp (disch := omega) only [xk_none, xk_inl, xk_inr, xk_ite, xri_v, xrl_v, xrv_v, xb_z0, xb_z1, xb_b2, if_true, if_false, ite_true, ite_false, iZ_lit, iZ_m1, iZ_m99, iZ_m8, iZ_add, iZ_sub, iZ_mul, iZ_neg, nz0, nzi, iZ_lt, iZ_le, iZ_inj, b2_z, b2_o, ite_bPz, ite_bPo, xb_bP, iZ_xin, if_pos, ite_self, ↓reduceIte, Int.reduceAdd, Int.reduceSub, Int.reduceMul, Int.reduceNeg, Int.reduceLT, Int.reduceLE, if_neg, f1]
  · rw [if_neg e, bP_f e]
    by_cases e2 : n < 0
    · show xfix gX8_shorten (0, [some (.inr (.inr (8, 0))), some (.inl (iZ (n)))], [], M) = _; rw [xfix_unf, sX8_shorten_0]
      simp (disch := omega) only [xk_none, xk_inl, xk_inr, xk_ite, xri_v, xrl_v, xrv_v, xb_z0, xb_z1, xb_b2, if_true, if_false, ite_true, ite_false, iZ_lit, iZ_m1, iZ_m99, iZ_m8, iZ_add, iZ_sub, iZ_mul, iZ_neg, nz0, nzi, iZ_lt, iZ_le, iZ_inj, b2_z, b2_o, ite_bPz, ite_bPo, xb_bP, iZ_xin, if_pos, ite_self, ↓reduceIte, Int.reduceAdd, Int.reduceSub, Int.reduceMul, Int.reduceNeg, Int.reduceLT, Int.reduceLE, if_neg, f1]
    · show xfix gX8_shorten (0, [some (.inr (.inr (8, 0))), some (.inl (iZ (n)))], [], M) = _; rw [xfix_unf, sX8_shorten_0]
      simp (disch := omega) only [xk_none, xk_inl, xk_inr, xk_ite, xri_v, xrl_v, xrv_v, xb_z0, xb_z1, xb_b2, if_true, if_false, ite_true, ite_false, iZ_lit, iZ_m1, iZ_m99, iZ_m8, iZ_add, iZ_sub, iZ_mul, iZ_neg, nz0, nzi, iZ_lt, iZ_le, iZ_inj, b2_z, b2_o, ite_bPz, ite_bPo, xb_bP, iZ_xin, if_pos, ite_self, ↓reduceIte, Int.reduceAdd, Int.reduceSub, Int.reduceMul, Int.reduceNeg, Int.reduceLT, Int.reduceLE, if_neg, f1]
