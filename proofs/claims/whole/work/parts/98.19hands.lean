/-! the class: what lies on what -/
theorem x_min {M : xM} {a b : Int} (ha : r32 a) (hb : r32 b) : fJ9_min_7cf53 [.inl (iZ a), .inl (iZ b)] M = some (some (.inl (iZ (if b < a then b else a))), M) := by
  show (some (some (.inl (if iZ b < iZ a then iZ b else iZ a)), M) : Option (Option xV × xM)) = _
  unfold r32 at ha hb
  by_cases e : b < a
  · rw [if_pos ((iZ_lt (by omega) (by omega)).mpr e), if_pos e]
  · rw [if_neg (fun z => e ((iZ_lt (by omega) (by omega)).mp z)), if_neg e]
theorem x_max {M : xM} {a b : Int} (ha : r32 a) (hb : r32 b) : fJ9_max_7cf53 [.inl (iZ a), .inl (iZ b)] M = some (some (.inl (iZ (if a < b then b else a))), M) := by
  show (some (some (.inl (if iZ a < iZ b then iZ b else iZ a)), M) : Option (Option xV × xM)) = _
  unfold r32 at ha hb
  by_cases e : a < b
  · rw [if_pos ((iZ_lt (by omega) (by omega)).mpr e), if_pos e]
  · rw [if_neg (fun z => e ((iZ_lt (by omega) (by omega)).mp z)), if_neg e]
/-- lowest planes and the parts beneath -/
def cUn (M : xM) (A : dA) : Prop := ∀ p, p < aP A → xI M (21, 0) p = iZ (lowS A p) ∧ xI M (20, 0) p = iZ (belS A p)
theorem low_7 {A : dA} (hF : aFl A) {p : Nat} (hp : p < aP A) : lowS A p < 8 := by
  obtain ⟨c, h1, h2⟩ := hF p hp
  refine Classical.byContradiction fun z => ?_
  exact lst_no (fun z => ∃ c, c < 512 ∧ c / 64 = z ∧ aC A c = p) 8 (c / 64) (by unfold lowS at z; omega) ⟨c, h1, rfl, h2⟩
theorem sh_low {A : dA} (hF : aFl A) {f : Nat → Bool} {p : Nat} (hp : p < aP A) (hf : ∀ c, c < 512 → (f c = true ↔ aC A c = p)) : (if shW f 2 = 0 then 0 else (jLw (shW f 2) 8 : Int)) = (lowS A p : Int) := by
  have h7 := low_7 hF hp
  have e : jLw (shW f 2) 8 = lowS A p := lst_cg fun z hz => by
    unfold shW
    rw [msk_bit]
    constructor
    · rintro ⟨_, c, c1, c2, c3⟩
      exact ⟨c, c1, c3, (hf c c1).mp c2⟩
    · rintro ⟨c, c1, c2, c3⟩
      exact ⟨hz, c, c1, (hf c c1).mpr c3, c2⟩
  have n0 : shW f 2 ≠ 0 := fun z => by
    have : jLw (shW f 2) 8 = 8 := by rw [z]; exact lst_eq (Nat.le_refl _) (fun i _ => by rw [Nat.zero_testBit]; simp) (fun z => by omega)
    omega
  rw [if_neg n0, e]
theorem x_findUnder {M : xM} {A : dA} (hA : aOk A) (hF : aFl A) (h : cBd M 0 (aP A) (aC A)) : ∃ M', fX0_findUnder [.inr (.inr (0, 0))] M = some (none, M') ∧ xSame (fun r => r = (20, 0) ∨ r = (21, 0) ∨ r = (44, 43)) M M' ∧ cUn M' A := by
  have hP := hA.P
  obtain ⟨f0, _, hB⟩ := h
  obtain ⟨M2, b1, b2, b3⟩ := xfor_M (sg := gX0_findUnder) (st := fun i M => (2, [some (.inr (.inr (0, 0))), some (.inl (iZ (i))), none], [], M)) (I := fun n K => xSame (fun r => r = (20, 0) ∨ r = (21, 0) ∨ r = (44, 43)) M K ∧ ∀ p, p < n → xI K (21, 0) p = iZ (lowS A p) ∧ xI K (20, 0) p = iZ (belS A p)) (n := aP A) (fun i K hi hK => by
    obtain ⟨k1, k2⟩ := hK
    have g0 : xI K (5, 0) 0 = iZ (aP A) := by rw [(k1 (5, 0) (by simp)).1]; exact f0
    have hbod : ∀ p, p < aP A → ∀ c, c < 512 → (sB K (10 * 0 + 1 + p) c = true ↔ aC A c = p) := fun p hp c hc => by rw [sB_same k1 (by simp; omega) c]; exact hB p hp c hc
    have hs := x_shadow (M := K) (k := 10 * 0 + 1 + i) (a := 2) (by omega)
    have hl := x_lowest (M := K) (b := shW (sB K (10 * 0 + 1 + i)) 2) (msk_lt _ 8)
    rw [sh_low hF hi (hbod i hi)] at hl
    obtain ⟨K3, c1, c2, c3⟩ := x_copy (M := xpI K (21, 0) i (iZ (lowS A i))) (k := 43) (j := 10 * 0 + 1 + i) (by omega)
    obtain ⟨K4, d1, d2, d3⟩ := x_step (M := K3) (k := 43) (w := 5) (by omega)
    have s4 : xSame (fun r => r = (20, 0) ∨ r = (21, 0) ∨ r = (44, 43)) M (xpI K4 (20, 0) i (iZ 0)) := (((k1.pI (.inr (.inl rfl))).tr (c2.wk fun r z => .inr (.inr z))).tr (d2.wk fun r z => .inr (.inr z))).pI (.inl rfl)
    have h43 : ∀ c, c < 512 → (sB K4 43 c = true ↔ c < 448 ∧ aC A (c + 64) = i) := fun c hc => by
      rw [d3 c hc]
      unfold stB
      rw [if_neg (by omega), if_neg (by omega), if_neg (by omega), if_neg (by omega), if_neg (by omega), Bool.and_eq_true, decide_eq_true_eq]
      refine and_congr_right fun h4 => ?_
      rw [c3 (c + 64) (by omega)]
      exact hbod i hi (c + 64) (by omega)
    obtain ⟨K5, e1, e2, e3⟩ := xfor_M (sg := gX0_findUnder) (st := fun q M => (68, [some (.inr (.inr (0, 0))), some (.inl (iZ (i))), some (.inl (iZ (q)))], [], M)) (I := fun n L => xSm (fun r j => r = (20, 0) ∧ j = i) (xpI K4 (20, 0) i (iZ 0)) L ∧ xI L (20, 0) i = iZ ((msk (fun q => q < n ∧ ∃ c, 64 ≤ c ∧ c < 512 ∧ aC A c = i ∧ aC A (c - 64) = q ∧ q ≠ i) 9 : Nat) : Int)) (n := aP A) (fun q L hq hL => by
      obtain ⟨l1, l2⟩ := hL
      have q0 : xI L (5, 0) 0 = iZ (aP A) := by rw [(l1 (5, 0) 0 (by simp)).1, (s4 (5, 0) (by simp)).1]; exact f0
      have sL : ∀ k c, sB L k c = sB K4 k c := fun k c => by unfold sB; rw [(l1 (44, k) (c / 64) (by simp)).2]; rfl
      have hm := x_meets (M := L) (k := 43) (j := 10 * 0 + 1 + q)
      have hqb : ∀ c, c < 512 → (sB K4 (10 * 0 + 1 + q) c = true ↔ aC A c = q) := fun c hc => by
        rw [sB_same d2 (by simp; omega) c, sB_same c2 (by simp; omega) c]
        exact hbod q hq c hc
      by_cases ei : q = i
      · refine ⟨L, ?_, l1, ?_⟩
        · rw [nS]
          subst ei
          rw [xfix_unf, sX0_findUnder_68]
          simp (disch := omega) only [xk_none, xk_inl, xk_inr, xk_ite, xri_v, xrl_v, xrv_v, xb_z0, xb_z1, xb_b2, if_true, if_false, ite_true, ite_false, iZ_lit, iZ_m1, iZ_m99, iZ_m8, iZ_add, iZ_sub, iZ_mul, iZ_neg, nz0, nzi, iZ_lt, iZ_le, iZ_inj, b2_z, b2_o, ite_bPz, ite_bPo, xb_bP, iZ_xin, if_pos, ite_self, ↓reduceIte, Int.reduceAdd, Int.reduceSub, Int.reduceMul, Int.reduceNeg, Int.reduceLT, Int.reduceLE, if_neg, nS, iZ_clampN, iZ_bit, iZ_one, iZ_and, iZ_or, iZ_ndn, q0]
        · rw [l2]
          congr 2
          refine msk_cg fun q' _ => ⟨fun z => ⟨by omega, z.2⟩, fun z => ⟨?_, z.2⟩⟩
          obtain ⟨z1, c, _, _, _, _, z2⟩ := z
          omega
      · have hif : (∃ c, c < 512 ∧ sB L 43 c = true ∧ sB L (10 * 0 + 1 + q) c = true) ↔ ∃ c, 64 ≤ c ∧ c < 512 ∧ aC A c = i ∧ aC A (c - 64) = q ∧ q ≠ i := by
          constructor
          · rintro ⟨c, x1, x2, x3⟩
            rw [sL, h43 c x1] at x2
            rw [sL, hqb c x1] at x3
            exact ⟨c + 64, by omega, by omega, x2.2, by rw [Nat.add_sub_cancel]; exact x3, ei⟩
          · rintro ⟨c, x1, x2, x3, x4, _⟩
            refine ⟨c - 64, by omega, ?_, ?_⟩
            · rw [sL, h43 _ (by omega)]; exact ⟨by omega, by rw [show c - 64 + 64 = c by omega]; exact x3⟩
            · rw [sL, hqb _ (by omega)]; exact x4
        by_cases y : ∃ c, 64 ≤ c ∧ c < 512 ∧ aC A c = i ∧ aC A (c - 64) = q ∧ q ≠ i
        · rw [bP_t (hif.mpr y)] at hm
          have e2 : msk (fun q => q < q.succ ∧ False) 9 = 0 := msk_e fun _ _ z => z.2
          have eo : msk (fun q' => q' < q ∧ ∃ c, 64 ≤ c ∧ c < 512 ∧ aC A c = i ∧ aC A (c - 64) = q' ∧ q' ≠ i) 9 ||| 2 ^ q = msk (fun q' => q' < q + 1 ∧ ∃ c, 64 ≤ c ∧ c < 512 ∧ aC A c = i ∧ aC A (c - 64) = q' ∧ q' ≠ i) 9 := by
            rw [msk_or (by omega)]
            refine msk_cg fun q' _ => ?_
            constructor
            · rintro (z | z)
              · exact ⟨by omega, z.2⟩
              · subst z; exact ⟨by omega, y⟩
            · rintro ⟨z1, z2⟩
              by_cases z : q' = q
              · exact .inr z
              · exact .inl ⟨by omega, z2⟩
          refine ⟨xpI L (20, 0) i (iZ ((msk (fun q' => q' < q + 1 ∧ ∃ c, 64 ≤ c ∧ c < 512 ∧ aC A c = i ∧ aC A (c - 64) = q' ∧ q' ≠ i) 9 : Nat) : Int)), ?_, l1.pI ⟨rfl, rfl⟩, by rw [pR_eq]⟩
          rw [← eo, nS]
          generalize msk (fun q' => q' < q ∧ ∃ c, 64 ≤ c ∧ c < 512 ∧ aC A c = i ∧ aC A (c - 64) = q' ∧ q' ≠ i) 9 = m at *
          rw [xfix_unf, sX0_findUnder_68]
          simp (disch := omega) only [xk_none, xk_inl, xk_inr, xk_ite, xri_v, xrl_v, xrv_v, xb_z0, xb_z1, xb_b2, if_true, if_false, ite_true, ite_false, iZ_lit, iZ_m1, iZ_m99, iZ_m8, iZ_add, iZ_sub, iZ_mul, iZ_neg, nz0, nzi, iZ_lt, iZ_le, iZ_inj, b2_z, b2_o, ite_bPz, ite_bPo, xb_bP, iZ_xin, if_pos, ite_self, ↓reduceIte, Int.reduceAdd, Int.reduceSub, Int.reduceMul, Int.reduceNeg, Int.reduceLT, Int.reduceLE, if_neg, nS, iZ_clampN, iZ_bit, iZ_one, iZ_and, iZ_or, iZ_ndn, q0, hm, l2]
        · rw [bP_f (fun z => y (hif.mp z))] at hm
          refine ⟨L, ?_, l1, ?_⟩
          · rw [nS]
            rw [xfix_unf, sX0_findUnder_68]
            simp (disch := omega) only [xk_none, xk_inl, xk_inr, xk_ite, xri_v, xrl_v, xrv_v, xb_z0, xb_z1, xb_b2, if_true, if_false, ite_true, ite_false, iZ_lit, iZ_m1, iZ_m99, iZ_m8, iZ_add, iZ_sub, iZ_mul, iZ_neg, nz0, nzi, iZ_lt, iZ_le, iZ_inj, b2_z, b2_o, ite_bPz, ite_bPo, xb_bP, iZ_xin, if_pos, ite_self, ↓reduceIte, Int.reduceAdd, Int.reduceSub, Int.reduceMul, Int.reduceNeg, Int.reduceLT, Int.reduceLE, if_neg, nS, iZ_clampN, iZ_bit, iZ_one, iZ_and, iZ_or, iZ_ndn, q0, hm]
          · rw [l2]
            congr 2
            refine msk_cg fun q' _ => ⟨fun z => ⟨by omega, z.2⟩, fun z => ⟨?_, z.2⟩⟩
            by_cases w : q' = q
            · subst w; exact absurd z.2 y
            · omega) (a := 0) (M := xpI K4 (20, 0) i (iZ 0)) (by omega) ⟨xSm.rf, by rw [pR_eq, msk_e (fun q _ z => by omega)]; rfl⟩
    have s5 : xSame (fun r => r = (20, 0) ∨ r = (21, 0) ∨ r = (44, 43)) M K5 := s4.tr (e2.S fun r j z => .inl z.1)
    refine ⟨K5, ?_, s5, fun p hp => ?_⟩
    · have t1 : xfix gX0_findUnder (2, [some (.inr (.inr (0, 0))), some (.inl (iZ (i))), none], [], K) = xfix gX0_findUnder (68, [some (.inr (.inr (0, 0))), some (.inl (iZ (i))), some (.inl (iZ (((0 : Nat)))))], [], xpI K4 (20, 0) i (iZ 0)) := by
        have z0 : ((0 : Nat) : Int) = 0 := rfl
        generalize lowS A i = lo at *
        generalize shW (sB K (10 * 0 + 1 + i)) 2 = sh at *
        have e5 : ((5 : Nat) : Int) = 5 := rfl
        have e2' : ((2 : Nat) : Int) = 2 := rfl
        rw [e5] at d1
        rw [e2'] at hs
        rw [xfix_unf, sX0_findUnder_2]
        simp (disch := omega) only [xk_none, xk_inl, xk_inr, xk_ite, xri_v, xrl_v, xrv_v, xb_z0, xb_z1, xb_b2, if_true, if_false, ite_true, ite_false, iZ_lit, iZ_m1, iZ_m99, iZ_m8, iZ_add, iZ_sub, iZ_mul, iZ_neg, nz0, nzi, iZ_lt, iZ_le, iZ_inj, b2_z, b2_o, ite_bPz, ite_bPo, xb_bP, iZ_xin, if_pos, ite_self, ↓reduceIte, Int.reduceAdd, Int.reduceSub, Int.reduceMul, Int.reduceNeg, Int.reduceLT, Int.reduceLE, if_neg, g0, iZ_clampN, hs, hl, c1, d1, z0]
      refine (t1.trans e1).trans ?_
      have q0 : xI K5 (5, 0) 0 = iZ (aP A) := by rw [(s5 (5, 0) (by simp)).1]; exact f0
      rw [nS]
      rw [xfix_unf, sX0_findUnder_68]
      simp (disch := omega) only [xk_none, xk_inl, xk_inr, xk_ite, xri_v, xrl_v, xrv_v, xb_z0, xb_z1, xb_b2, if_true, if_false, ite_true, ite_false, iZ_lit, iZ_m1, iZ_m99, iZ_m8, iZ_add, iZ_sub, iZ_mul, iZ_neg, nz0, nzi, iZ_lt, iZ_le, iZ_inj, b2_z, b2_o, ite_bPz, ite_bPo, xb_bP, iZ_xin, if_pos, ite_self, ↓reduceIte, Int.reduceAdd, Int.reduceSub, Int.reduceMul, Int.reduceNeg, Int.reduceLT, Int.reduceLE, if_neg, nS, iZ_clampN, iZ_bit, iZ_one, iZ_and, iZ_or, iZ_ndn, q0]
    · have f21 : xI K5 (21, 0) p = xI (xpI K (21, 0) i (iZ (lowS A i))) (21, 0) p := by
        rw [(e2 (21, 0) p (by simp)).1, pR_nr (by omega), (d2 (21, 0) (by simp)).1, (c2 (21, 0) (by simp)).1]
      rw [f21]
      by_cases z : p = i
      · subst z
        refine ⟨pR_eq, ?_⟩
        rw [e3]
        congr 2
        unfold belS
        refine msk_cg fun q _ => ⟨fun z => z.2, fun z => ⟨?_, z⟩⟩
        obtain ⟨c, _, _, _, z4, _⟩ := z
        have := (hA.C (c := c - 64) (by omega)).2
        omega
      · rw [pR_ne z, (e2 (20, 0) p (by simp; omega)).1, pR_ne z, (d2 (20, 0) (by simp)).1, (c2 (20, 0) (by simp)).1, pR_nr (by omega)]
        exact k2 p (by omega)) (a := 0) (M := M) (by omega) ⟨xSame.rf, fun p hp => by omega⟩
  refine ⟨M2, ?_, b2, b3⟩
  have q0 : xI M2 (5, 0) 0 = iZ (aP A) := by rw [(b2 (5, 0) (by simp)).1]; exact f0
  show xfix gX0_findUnder (0, [some (.inr (.inr (0, 0))), none, none], [], M) = _; rw [xfix_unf, sX0_findUnder_0]
  simp (disch := omega) only [xk_none, xk_inl, xk_inr, xk_ite, xri_v, xrl_v, xrv_v, xb_z0, xb_z1, xb_b2, if_true, if_false, ite_true, ite_false, iZ_lit, iZ_m1, iZ_m99, iZ_m8, iZ_add, iZ_sub, iZ_mul, iZ_neg, nz0, nzi, iZ_lt, iZ_le, iZ_inj, b2_z, b2_o, ite_bPz, ite_bPo, xb_bP, iZ_xin, if_pos, ite_self, ↓reduceIte, Int.reduceAdd, Int.reduceSub, Int.reduceMul, Int.reduceNeg, Int.reduceLT, Int.reduceLE, if_neg]
  refine Eq.trans b1 ?_
  rw [xfix_unf, sX0_findUnder_2]
  simp (disch := omega) only [xk_none, xk_inl, xk_inr, xk_ite, xri_v, xrl_v, xrv_v, xb_z0, xb_z1, xb_b2, if_true, if_false, ite_true, ite_false, iZ_lit, iZ_m1, iZ_m99, iZ_m8, iZ_add, iZ_sub, iZ_mul, iZ_neg, nz0, nzi, iZ_lt, iZ_le, iZ_inj, b2_z, b2_o, ite_bPz, ite_bPo, xb_bP, iZ_xin, if_pos, ite_self, ↓reduceIte, Int.reduceAdd, Int.reduceSub, Int.reduceMul, Int.reduceNeg, Int.reduceLT, Int.reduceLE, if_neg, nS, iZ_clampN, iZ_bit, iZ_one, iZ_and, iZ_or, iZ_ndn, q0]
theorem min7 {f l : Nat} (h : l ≤ 7) : (if (l : Int) < ((if f ≤ 7 then f else 7 : Nat) : Int) then (l : Int) else ((if f ≤ 7 then f else 7 : Nat) : Int)) = ((if (if l < f then l else f) ≤ 7 then (if l < f then l else f) else 7 : Nat) : Int) := by
  (repeat' split) <;> omega
theorem x_floorOf {M : xM} {A : dA} {heap : Nat} (hA : aOk A) (hF : aFl A) (f0 : xI M (5, 0) 0 = iZ (aP A)) (hU : cUn M A) (h1 : 1 ≤ heap) (hh : heap < 2 ^ aP A) : fX0_floorOf [.inr (.inr (0, 0)), .inl (iZ (heap))] M = some (some (.inl (iZ ((flr A heap (aP A) : Nat)))), M) ∧ flr A heap (aP A) ≤ 7 := by
  have hP := hA.P
  have h512 := Nat.lt_of_lt_of_le hh (pow9 hP).2
  have lp := xfor_F (sg := gX0_floorOf) (fun i => (5, [some (.inr (.inr (0, 0))), some (.inl (iZ (heap))), some (.inl (iZ (((if flr A heap i ≤ 7 then flr A heap i else 7 : Nat))))), some (.inl (iZ (i)))], [], M)) (a := 0) (n := aP A) (by omega) (fun i _ hi => by
    have h7 := low_7 hF hi
    have hl := (hU i hi).1
    have e : flr A heap (i + 1) = if heap.testBit i = true ∧ lowS A i < flr A heap i then lowS A i else flr A heap i := rfl
    have hu : (if flr A heap i ≤ 7 then flr A heap i else 7 : Nat) ≤ 7 := by split <;> omega
    by_cases y : heap.testBit i = true
    · have hm := x_min (M := M) (a := ((if flr A heap i ≤ 7 then flr A heap i else 7 : Nat) : Int)) (b := (lowS A i : Int)) (by unfold r32; omega) (by unfold r32; omega)
      have e2 : (if (lowS A i : Int) < ((if flr A heap i ≤ 7 then flr A heap i else 7 : Nat) : Int) then (lowS A i : Int) else ((if flr A heap i ≤ 7 then flr A heap i else 7 : Nat) : Int)) = ((if flr A heap (i + 1) ≤ 7 then flr A heap (i + 1) else 7 : Nat) : Int) := by
        have e' : flr A heap (i + 1) = if lowS A i < flr A heap i then lowS A i else flr A heap i := by
          rw [e]
          by_cases q : lowS A i < flr A heap i
          · rw [if_pos ⟨y, q⟩, if_pos q]
          · rw [if_neg (fun z => q z.2), if_neg q]
        rw [e']
        exact min7 (by omega)
      rw [e2] at hm
      generalize (if flr A heap (i + 1) ≤ 7 then flr A heap (i + 1) else 7 : Nat) = v at *
      generalize (if flr A heap i ≤ 7 then flr A heap i else 7 : Nat) = u at *
      rw [nS]
      rw [xfix_unf, sX0_floorOf_5]
      simp (disch := omega) only [xk_none, xk_inl, xk_inr, xk_ite, xri_v, xrl_v, xrv_v, xb_z0, xb_z1, xb_b2, if_true, if_false, ite_true, ite_false, iZ_lit, iZ_m1, iZ_m99, iZ_m8, iZ_add, iZ_sub, iZ_mul, iZ_neg, nz0, nzi, iZ_lt, iZ_le, iZ_inj, b2_z, b2_o, ite_bPz, ite_bPo, xb_bP, iZ_xin, if_pos, ite_self, ↓reduceIte, Int.reduceAdd, Int.reduceSub, Int.reduceMul, Int.reduceNeg, Int.reduceLT, Int.reduceLE, if_neg, nS, iZ_clampN, iZ_bit, iZ_one, iZ_and, iZ_or, iZ_ndn, f0, bP_t y, hl, hm]
    · have e2 : flr A heap (i + 1) = flr A heap i := by rw [e, if_neg (fun z => y z.1)]
      rw [e2, nS]
      generalize (if flr A heap i ≤ 7 then flr A heap i else 7 : Nat) = u at *
      rw [xfix_unf, sX0_floorOf_5]
      simp (disch := omega) only [xk_none, xk_inl, xk_inr, xk_ite, xri_v, xrl_v, xrv_v, xb_z0, xb_z1, xb_b2, if_true, if_false, ite_true, ite_false, iZ_lit, iZ_m1, iZ_m99, iZ_m8, iZ_add, iZ_sub, iZ_mul, iZ_neg, nz0, nzi, iZ_lt, iZ_le, iZ_inj, b2_z, b2_o, ite_bPz, ite_bPo, xb_bP, iZ_xin, if_pos, ite_self, ↓reduceIte, Int.reduceAdd, Int.reduceSub, Int.reduceMul, Int.reduceNeg, Int.reduceLT, Int.reduceLE, if_neg, nS, iZ_clampN, iZ_bit, iZ_one, iZ_and, iZ_or, iZ_ndn, f0, bP_f y])
  have fl7 : flr A heap (aP A) ≤ 7 := by
    have key : ∀ n i, i < n → heap.testBit i = true → n ≤ aP A → flr A heap n ≤ 7 := fun n => by
      induction n with
      | zero => intro i hi; omega
      | succ n ih =>
        intro i hi hb hn
        have h7 := low_7 hF (p := n) (by omega)
        show (if heap.testBit n = true ∧ lowS A n < flr A heap n then lowS A n else flr A heap n) ≤ 7
        by_cases z : i = n
        · subst z
          by_cases q : lowS A i < flr A heap i
          · rw [if_pos ⟨hb, q⟩]; omega
          · rw [if_neg (fun z => q z.2)]; omega
        · have := ih i (by omega) hb (by omega)
          split <;> omega
    obtain ⟨l1, l2⟩ := jLw_P (by omega) hh hP
    have : heap.testBit (jLw heap 9) = true := lst_is (fun p => heap.testBit p = true) 9 (show jLw heap 9 < 9 by omega)
    exact key (aP A) _ l2 this (Nat.le_refl _)
  refine ⟨?_, fl7⟩
  have t0 : fX0_floorOf [.inr (.inr (0, 0)), .inl (iZ (heap))] M = xfix gX0_floorOf (5, [some (.inr (.inr (0, 0))), some (.inl (iZ (heap))), some (.inl (iZ (((if flr A heap 0 ≤ 7 then flr A heap 0 else 7 : Nat))))), some (.inl (iZ (((0 : Nat)))))], [], M) := by
    have z0 : ((0 : Nat) : Int) = 0 := rfl
    have z7 : ((if flr A heap 0 ≤ 7 then flr A heap 0 else 7 : Nat) : Int) = 7 := rfl
    rw [z0, z7]
    show xfix gX0_floorOf (0, [some (.inr (.inr (0, 0))), some (.inl (iZ (heap))), none, none], [], M) = _; rw [xfix_unf, sX0_floorOf_0]
    simp (disch := omega) only [xk_none, xk_inl, xk_inr, xk_ite, xri_v, xrl_v, xrv_v, xb_z0, xb_z1, xb_b2, if_true, if_false, ite_true, ite_false, iZ_lit, iZ_m1, iZ_m99, iZ_m8, iZ_add, iZ_sub, iZ_mul, iZ_neg, nz0, nzi, iZ_lt, iZ_le, iZ_inj, b2_z, b2_o, ite_bPz, ite_bPo, xb_bP, iZ_xin, if_pos, ite_self, ↓reduceIte, Int.reduceAdd, Int.reduceSub, Int.reduceMul, Int.reduceNeg, Int.reduceLT, Int.reduceLE, if_neg]
  refine t0.trans (lp.trans ?_)
  rw [if_pos fl7]
  rw [xfix_unf, sX0_floorOf_5]
  simp (disch := omega) only [xk_none, xk_inl, xk_inr, xk_ite, xri_v, xrl_v, xrv_v, xb_z0, xb_z1, xb_b2, if_true, if_false, ite_true, ite_false, iZ_lit, iZ_m1, iZ_m99, iZ_m8, iZ_add, iZ_sub, iZ_mul, iZ_neg, nz0, nzi, iZ_lt, iZ_le, iZ_inj, b2_z, b2_o, ite_bPz, ite_bPo, xb_bP, iZ_xin, if_pos, ite_self, ↓reduceIte, Int.reduceAdd, Int.reduceSub, Int.reduceMul, Int.reduceNeg, Int.reduceLT, Int.reduceLE, if_neg, nS, iZ_clampN, iZ_bit, iZ_one, iZ_and, iZ_or, iZ_ndn, f0]
/-- the parts of a heap that stand on its floor -/
noncomputable def onF (A : dA) (heap fl n : Nat) : Nat := msk (fun p => p < n ∧ heap.testBit p = true ∧ lowS A p = fl) 9
theorem x_onFloor {M : xM} {A : dA} {heap fl : Nat} (hA : aOk A) (hF : aFl A) (f0 : xI M (5, 0) 0 = iZ (aP A)) (hU : cUn M A) (hh : heap < 512) (hf : fl ≤ 8) : fX0_onFloor [.inr (.inr (0, 0)), .inl (iZ (heap)), .inl (iZ (fl))] M = some (some (.inl (iZ ((onF A heap fl (aP A) : Nat)))), M) := by
  have hP := hA.P
  have lp := xfor_F (sg := gX0_onFloor) (fun i => (5, [some (.inr (.inr (0, 0))), some (.inl (iZ (heap))), some (.inl (iZ (fl))), some (.inl (iZ ((onF A heap fl i)))), some (.inl (iZ (i)))], [], M)) (a := 0) (n := aP A) (by omega) (fun i _ hi => by
    have h7 := low_7 hF hi
    have hl := (hU i hi).1
    by_cases y : heap.testBit i = true ∧ lowS A i = fl
    · have e : onF A heap fl (i + 1) = onF A heap fl i ||| 2 ^ i := by
        unfold onF
        rw [msk_or (by omega)]
        refine msk_cg fun q _ => ?_
        constructor
        · rintro ⟨z1, z2⟩
          by_cases z : q = i
          · exact .inr z
          · exact .inl ⟨by omega, z2⟩
        · rintro (z | z)
          · exact ⟨by omega, z.2⟩
          · subst z; exact ⟨by omega, y⟩
      rw [e, nS]
      generalize onF A heap fl i = u at *
      obtain ⟨y1, y2⟩ := y
      generalize lowS A i = lo at *
      subst y2
      rw [xfix_unf, sX0_onFloor_5]
      simp (disch := omega) only [xk_none, xk_inl, xk_inr, xk_ite, xri_v, xrl_v, xrv_v, xb_z0, xb_z1, xb_b2, if_true, if_false, ite_true, ite_false, iZ_lit, iZ_m1, iZ_m99, iZ_m8, iZ_add, iZ_sub, iZ_mul, iZ_neg, nz0, nzi, iZ_lt, iZ_le, iZ_inj, b2_z, b2_o, ite_bPz, ite_bPo, xb_bP, iZ_xin, if_pos, ite_self, ↓reduceIte, Int.reduceAdd, Int.reduceSub, Int.reduceMul, Int.reduceNeg, Int.reduceLT, Int.reduceLE, if_neg, nS, iZ_clampN, iZ_bit, iZ_one, iZ_and, iZ_or, iZ_ndn, f0, bP_t y1, hl]
    · have e : onF A heap fl (i + 1) = onF A heap fl i := msk_cg fun q _ => ⟨fun z => ⟨by
          by_cases w : q = i
          · subst w; exact absurd z.2 y
          · omega, z.2⟩, fun z => ⟨by omega, z.2⟩⟩
      rw [e, nS]
      generalize onF A heap fl i = u at *
      by_cases y1 : heap.testBit i = true
      · have y2 : ¬ lowS A i = fl := fun z => y ⟨y1, z⟩
        generalize lowS A i = lo at *
        rw [xfix_unf, sX0_onFloor_5]
        simp (disch := omega) only [xk_none, xk_inl, xk_inr, xk_ite, xri_v, xrl_v, xrv_v, xb_z0, xb_z1, xb_b2, if_true, if_false, ite_true, ite_false, iZ_lit, iZ_m1, iZ_m99, iZ_m8, iZ_add, iZ_sub, iZ_mul, iZ_neg, nz0, nzi, iZ_lt, iZ_le, iZ_inj, b2_z, b2_o, ite_bPz, ite_bPo, xb_bP, iZ_xin, if_pos, ite_self, ↓reduceIte, Int.reduceAdd, Int.reduceSub, Int.reduceMul, Int.reduceNeg, Int.reduceLT, Int.reduceLE, if_neg, nS, iZ_clampN, iZ_bit, iZ_one, iZ_and, iZ_or, iZ_ndn, f0, bP_t y1, hl]
      · rw [xfix_unf, sX0_onFloor_5]
        simp (disch := omega) only [xk_none, xk_inl, xk_inr, xk_ite, xri_v, xrl_v, xrv_v, xb_z0, xb_z1, xb_b2, if_true, if_false, ite_true, ite_false, iZ_lit, iZ_m1, iZ_m99, iZ_m8, iZ_add, iZ_sub, iZ_mul, iZ_neg, nz0, nzi, iZ_lt, iZ_le, iZ_inj, b2_z, b2_o, ite_bPz, ite_bPo, xb_bP, iZ_xin, if_pos, ite_self, ↓reduceIte, Int.reduceAdd, Int.reduceSub, Int.reduceMul, Int.reduceNeg, Int.reduceLT, Int.reduceLE, if_neg, nS, iZ_clampN, iZ_bit, iZ_one, iZ_and, iZ_or, iZ_ndn, f0, bP_f y1])
  have o0 : onF A heap fl 0 = 0 := msk_e fun q _ z => by omega
  have t0 : fX0_onFloor [.inr (.inr (0, 0)), .inl (iZ (heap)), .inl (iZ (fl))] M = xfix gX0_onFloor (5, [some (.inr (.inr (0, 0))), some (.inl (iZ (heap))), some (.inl (iZ (fl))), some (.inl (iZ ((onF A heap fl 0)))), some (.inl (iZ (((0 : Nat)))))], [], M) := by
    have z0 : ((0 : Nat) : Int) = 0 := rfl
    rw [o0, z0]
    show xfix gX0_onFloor (0, [some (.inr (.inr (0, 0))), some (.inl (iZ (heap))), some (.inl (iZ (fl))), none, none], [], M) = _; rw [xfix_unf, sX0_onFloor_0]
    simp (disch := omega) only [xk_none, xk_inl, xk_inr, xk_ite, xri_v, xrl_v, xrv_v, xb_z0, xb_z1, xb_b2, if_true, if_false, ite_true, ite_false, iZ_lit, iZ_m1, iZ_m99, iZ_m8, iZ_add, iZ_sub, iZ_mul, iZ_neg, nz0, nzi, iZ_lt, iZ_le, iZ_inj, b2_z, b2_o, ite_bPz, ite_bPo, xb_bP, iZ_xin, if_pos, ite_self, ↓reduceIte, Int.reduceAdd, Int.reduceSub, Int.reduceMul, Int.reduceNeg, Int.reduceLT, Int.reduceLE, if_neg]
  refine t0.trans (lp.trans ?_)
  rw [xfix_unf, sX0_onFloor_5]
  simp (disch := omega) only [xk_none, xk_inl, xk_inr, xk_ite, xri_v, xrl_v, xrv_v, xb_z0, xb_z1, xb_b2, if_true, if_false, ite_true, ite_false, iZ_lit, iZ_m1, iZ_m99, iZ_m8, iZ_add, iZ_sub, iZ_mul, iZ_neg, nz0, nzi, iZ_lt, iZ_le, iZ_inj, b2_z, b2_o, ite_bPz, ite_bPo, xb_bP, iZ_xin, if_pos, ite_self, ↓reduceIte, Int.reduceAdd, Int.reduceSub, Int.reduceMul, Int.reduceNeg, Int.reduceLT, Int.reduceLE, if_neg, nS, iZ_clampN, iZ_bit, iZ_one, iZ_and, iZ_or, iZ_ndn, f0]
