/-! the class: orders are filled, heap by heap -/
/-- what the tables need -/
def oHy (A : dA) (B : Nat → Nat) (g : Nat) (one : Nat → Prop) (ok pt : Nat → Nat → Prop) (gw : Nat → Nat → Nat → Prop) : Prop := g < 512 ∧ (∀ h, 1 ≤ h → h < 2 ^ aP A → (one h ↔ bc h = 1 ∨ h = g)) ∧ (∀ heap half, heap < 2 ^ aP A → hAN g heap → half &&& heap = half → (ok heap half ↔ hAN g half)) ∧ (∀ heap half, half &&& heap = half → (ok heap half ↔ ok heap (ndn heap half))) ∧ (∀ heap half, heap < 2 ^ aP A → 1 ≤ half → half < heap → half &&& heap = half → (pt heap half ↔ ∃ w, w < 6 ∧ gw heap half w) ∧ (pt heap (ndn heap half) ↔ pt heap half)) ∧ ∀ heap half w, heap < 2 ^ aP A → half &&& heap = half → w < 6 → (gw heap half w ↔ gdw A B heap half w)
def cOr (M : xM) (k g : Nat) (one : Nat → Prop) (O : Nat → Int) (L : Nat → Int × Nat × Nat) (n : Nat) : Prop := ∀ h, 1 ≤ h → h < n → hAN g h → xL M (30, k) h = lZ (O h) ∧ xI M (31, k) h = iZ (L h).1 ∧ (¬ one h → (L h).1 ≠ -1 → xI M (32, k) h = iZ (L h).2.1 ∧ xI M (33, k) h = iZ (L h).2.2)
abbrev orF (k : Nat) (r : xR) : Prop := r = (30, k) ∨ r = (31, k) ∨ r = (32, k) ∨ r = (33, k)
/-- the lowest bit -/
def lowb (h : Nat) : Nat := h ^^^ (h &&& (h - 1))
theorem lowb_d : ∀ n : Nat, n < 512 → iZ (n : Int) &&& iZ (-(n : Int)) = iZ ((lowb n : Nat) : Int) := by decide +kernel
theorem hAN_rest {g heap half : Nat} (hs : half &&& heap = half) (h1 : hAN g heap) (h2 : hAN g half) : hAN g (ndn heap half) := by
  have hb : ∀ i, half.testBit i = true → heap.testBit i = true := ndn_z.mp (ndn_and.mpr hs)
  have z : ∀ a : Nat, a &&& g = 0 ↔ ∀ i, a.testBit i = true → g.testBit i = false := fun a => by
    constructor
    · intro h i hi
      have : (a &&& g).testBit i = false := by rw [h, Nat.zero_testBit]
      rw [Nat.testBit_and, hi, Bool.true_and] at this; exact this
    · intro h
      refine Nat.eq_of_testBit_eq fun i => ?_
      rw [Nat.testBit_and, Nat.zero_testBit]
      cases e : a.testBit i
      · rfl
      · rw [h i e]; rfl
  have f : ∀ a : Nat, a &&& g = g ↔ ∀ i, g.testBit i = true → a.testBit i = true := fun a => by
    constructor
    · intro h i hi
      have : (a &&& g).testBit i = true := by rw [h]; exact hi
      rw [Nat.testBit_and, Bool.and_eq_true] at this; exact this.1
    · intro h
      refine Nat.eq_of_testBit_eq fun i => ?_
      rw [Nat.testBit_and]
      cases e : g.testBit i
      · rw [Bool.and_false]
      · rw [h i e]; rfl
  unfold hAN at *
  rw [z, f] at h1 h2
  rw [z, f]
  rcases h1 with h1 | h1
  · exact .inl fun i hi => h1 i (by rw [ndn_bit, Bool.and_eq_true] at hi; exact hi.1)
  · rcases h2 with h2 | h2
    · refine .inr fun i hi => ?_
      rw [ndn_bit, h1 i hi, Bool.true_and]
      cases e : half.testBit i
      · rfl
      · rw [h2 i e] at hi; cases hi
    · refine .inl fun i hi => ?_
      rw [ndn_bit, Bool.and_eq_true, Bool.not_eq_true'] at hi
      cases e : g.testBit i
      · rfl
      · rw [h2 i e] at hi; cases hi.2
theorem x_fillHeap {M : xM} {A : dA} {B : Nat → Nat} {k kw g heap : Nat} {one : Nat → Prop} {ok pt : Nat → Nat → Prop} {gw : Nat → Nat → Nat → Prop} (hA : aOk A) (hy : oHy A B g one ok pt gw) (hJ : cJt M A) (hW : cWy M kw (aP A) B) (hB : ∀ k, B k < 512) (hp : ∀ w, w < 7 → xI M (53, 0) w = iZ (aPr A w)) (hN : iZ (aPr A 6) * xI M (23, 0) heap = iZ ((aPr A 6 : Int) * (hnd A heap : Int))) (h1 : 1 ≤ heap) (hh : heap < 2 ^ aP A) (ho : ¬ one heap) (hn : hAN g heap) (hT : cOr M k g one (fun h => ordT one ok pt (h + 1) h) (fun h => leaT one ok gw (cstA A) (h + 1) h) heap) (f30 : xL M (30, k) heap = lZ 0) (f31 : xI M (31, k) heap = iZ (-1)) : ∃ M', fX2_fillHeap [.inr (.inr (2, k)), .inr (.inr (10, kw)), .inl (iZ (heap)), .inl (iZ (g))] M = some (none, M') ∧ xSm (fun r j => j = heap ∧ orF k r) M M' ∧ xL M' (30, k) heap = lZ (ordT one ok pt (heap + 1) heap) ∧ cLe M' k heap (leaT one ok gw (cstA A) (heap + 1) heap) := by
  have hP := hA.P
  have h512 := Nat.lt_of_lt_of_le hh (pow9 hP).2
  obtain ⟨hg, y1, y2, y3, y4, y5⟩ := hy
  have hcst : ∀ heap w, w < 6 → 0 ≤ cstA A heap w ∧ cstA A heap w ≤ 1089 := fun heap w hw => cstA_b hA heap hw
  have eo : ordT one ok pt (heap + 1) heap = ordP one ok pt heap (ordT one ok pt heap) heap := tab_at _ _ (by omega)
  have el : leaT one ok gw (cstA A) (heap + 1) heap = leaP one ok gw (cstA A) heap (leaT one ok gw (cstA A) heap) heap := tab_at _ _ (by omega)
  have so : ∀ j, j < heap → ordT one ok pt heap j = ordT one ok pt (j + 1) j := fun j hj => tab_st _ _ hj (by omega)
  have sl : ∀ j, j < heap → leaT one ok gw (cstA A) heap j = leaT one ok gw (cstA A) (j + 1) j := fun j hj => tab_st _ _ hj (by omega)
  have bO : ∀ j, 1 ≤ j → j < heap → 0 ≤ ordT one ok pt heap j ∧ ordT one ok pt heap j < 9223372036854775808 := fun j j1 j2 => by
    have b := ordT_b (one := one) (ok := ok) (pt := pt) heap j j1 j2 (by omega)
    have := ob_lt (bc_le j)
    exact ⟨b.1, by omega⟩
  have bL : ∀ j, 1 ≤ j → j < heap → -1 ≤ (leaT one ok gw (cstA A) heap j).1 ∧ (leaT one ok gw (cstA A) heap j).1 ≤ 1089 * (j - 1) := fun j j1 j2 => leaT_b hcst heap j j1 j2
  have hol : ∀ j, 1 ≤ j → j < heap → (ordT one ok pt heap j ≠ 0 ↔ (leaT one ok gw (cstA A) heap j).1 ≠ -1) := fun j j1 j2 => by
    have q := ord_lea (one := one) (ok := ok) (pt := pt) (gw := gw) (cst := cstA A) (N := 2 ^ aP A) hcst (fun hp hf a b c d => by
      have q1 := y4 hp hf a b c d
      have hr := hlf_rest (one := fun _ => False) (ok := fun _ _ => True) (heap := hp) (half := hf) ⟨id, b, d, trivial⟩ c
      have q2 := y4 hp (ndn hp hf) a hr.2.2.1 hr.2.2.2 (ndn_ss hp hf)
      rw [q1.1]
      constructor
      · exact .inl
      · rintro (z | z)
        · exact z
        · exact q1.1.mp (q1.2.mp (q2.1.mpr z))) y3 j j1 (by omega) (pow9 hP).2
    rw [← so j j2, ← sl j j2] at q
    have := (bO j j1 j2).1
    rw [← q]
    omega
  obtain ⟨lw1, p, lp, ep, lb⟩ := low_is h1 h512
  have elow : lowb heap = 2 ^ p := ep
  have hpb : heap.testBit p = true := (lb p lp).mpr (.inr rfl)
  -- what is added by a half
  obtain ⟨f, ef⟩ : ∃ f : Nat → Int, f = fun j => @ite _ (hlf one ok heap j ∧ pt heap j) (Classical.propDecidable _) (ordT one ok pt heap j * ordT one ok pt heap (ndn heap j)) 0 := ⟨_, rfl⟩
  have fs : ∀ j, j < heap → ¬ j &&& heap = j → f j = 0 := fun j _ hj => by rw [ef]; exact if_neg fun z => hj z.1.2.2.1
  have f0' : f 0 = 0 := by rw [ef]; exact if_neg fun z => by have := z.1.2.1; omega
  have fr : ∀ j, 1 ≤ j → j < heap → j &&& heap = j → f (ndn heap j) = f j := fun j j1 j2 j3 => by
    have hr := hlf_rest (one := fun _ => False) (ok := fun _ _ => True) (heap := heap) (half := j) ⟨id, j1, j3, trivial⟩ j2
    have q := (y4 heap j hh j1 j2 j3).2
    rw [ef]
    show @ite _ (hlf one ok heap (ndn heap j) ∧ pt heap (ndn heap j)) (Classical.propDecidable _) (ordT one ok pt heap (ndn heap j) * ordT one ok pt heap (ndn heap (ndn heap j))) 0 = @ite _ (hlf one ok heap j ∧ pt heap j) (Classical.propDecidable _) (ordT one ok pt heap j * ordT one ok pt heap (ndn heap j)) 0
    rw [ndn_nn j3]
    by_cases z : hlf one ok heap j ∧ pt heap j
    · rw [if_pos z, if_pos ⟨⟨ho, hr.2.2.1, ndn_ss heap j, (y3 heap j j3).mp z.1.2.2.2⟩, q.mpr z.2⟩, Int.mul_comm]
    · rw [if_neg z, if_neg fun w => z ⟨⟨ho, j1, j3, (y3 heap j j3).mpr w.1.2.2.2⟩, q.mp w.2⟩]
  have tot : sm (fun j => if j.testBit p = true then f j else 0) heap = ordP one ok pt heap (ordT one ok pt heap) heap := by
    rw [sm_pair h1 (c := fun j => j.testBit p = true) fs f0' fr (fun j j1 j2 j3 => by
      show (ndn heap j).testBit p = true ↔ ¬ j.testBit p = true
      rw [ndn_bit, hpb, Bool.true_and]
      cases j.testBit p <;> simp)]
    show _ = @ite _ (one heap) (Classical.propDecidable _) 1 0 + sm (fun half => @ite _ (hlf one ok heap half ∧ half < ndn heap half ∧ pt heap half) (Classical.propDecidable _) (ordT one ok pt heap half * ordT one ok pt heap (ndn heap half)) 0) heap
    rw [if_neg ho, Int.zero_add]
    refine sm_cg fun j _ => ?_
    rw [ef]
    show (if j < ndn heap j then @ite _ (hlf one ok heap j ∧ pt heap j) (Classical.propDecidable _) (ordT one ok pt heap j * ordT one ok pt heap (ndn heap j)) 0 else 0) = _
    by_cases z : j < ndn heap j
    · rw [if_pos z]
      by_cases w : hlf one ok heap j ∧ pt heap j
      · rw [if_pos w, if_pos ⟨w.1, z, w.2⟩]
      · rw [if_neg w, if_neg fun q => w ⟨q.1, q.2.2⟩]
    · rw [if_neg z, if_neg fun q => z q.2.1]
  have hx := x_halvesOf (M := M) (heap := heap) h512
  obtain ⟨M', h', t1, t2, t3, t4⟩ := xfor_sub (σ := xM) (sg := gX2_fillHeap) (st := fun l h K => (15, [some (.inr (.inr (2, k))), some (.inr (.inr (10, kw))), some (.inl (iZ (heap))), some (.inl (iZ (g))), some (.inl (iZ ((2 ^ p : Nat)))), some (.inl (iZ (h))), some (.inl (iZ (l))), none, none], [], K)) (I := fun j K => xSm (fun r j => j = heap ∧ orF k r) M K ∧ xL K (30, k) heap = lZ (sm (fun j => if j.testBit p = true then f j else 0) j) ∧ cLe K k heap (leaP one ok gw (cstA A) heap (leaT one ok gw (cstA A) heap) j)) (heap := heap) h512 (by omega)
    (fun j K hj hn2 hI => by
      obtain ⟨i1, i2, i3⟩ := hI
      refine ⟨i1, ?_, ?_⟩
      · show _ = lZ (sm (fun j => if j.testBit p = true then f j else 0) j + (if j.testBit p = true then f j else 0))
        rw [fs j hj hn2, ite_self, Int.add_zero]; exact i2
      · rw [leaP_S, if_neg fun z => hn2 z.1.2.2.1]; exact i3)
    (fun l h j K hl hhj hj hs hnx hI => by
      obtain ⟨i1, i2, i3⟩ := hI
      have j1 : 1 ≤ j := by omega
      have hr := hlf_rest (one := fun _ => False) (ok := fun _ _ => True) (heap := heap) (half := j) ⟨id, j1, hs, trivial⟩ hj
      have hnh := x_nextHalf (M := K) (heap := heap) (half := h) (by omega)
      rw [hnx] at hnh
      have hL : ((l + 1 : Nat) : Int) + -1 = (l : Int) := by omega
      have han := x_hAN (M := K) (g := g) (s := j) hg (by omega)
      have eS : sm (fun j => if j.testBit p = true then f j else 0) (j + 1) = sm (fun j => if j.testBit p = true then f j else 0) j + (if j.testBit p = true then f j else 0) := rfl
      by_cases a1 : hAN g j
      · rw [bP_t a1] at han
        have aR := hAN_rest hs hn a1
        have okj : ok heap j := (y2 heap j hh hn hs).mpr a1
        have c1 : xL K (30, k) j = lZ (ordT one ok pt heap j) := by rw [(i1 (30, k) j (fun z => by omega)).2, so j hj]; exact (hT j j1 hj a1).1
        have c2 : xL K (30, k) (ndn heap j) = lZ (ordT one ok pt heap (ndn heap j)) := by rw [(i1 (30, k) _ (fun z => by omega)).2, so _ hr.2.2.2]; exact (hT _ hr.2.2.1 hr.2.2.2 aR).1
        have l1 : xI K (31, k) j = iZ (leaT one ok gw (cstA A) heap j).1 := by rw [(i1 (31, k) j (fun z => by omega)).1, sl j hj]; exact (hT j j1 hj a1).2.1
        have l2 : xI K (31, k) (ndn heap j) = iZ (leaT one ok gw (cstA A) heap (ndn heap j)).1 := by rw [(i1 (31, k) _ (fun z => by omega)).1, sl _ hr.2.2.2]; exact (hT _ hr.2.2.1 hr.2.2.2 aR).2.1
        have o1 := bO j j1 hj
        have o2 := bO _ hr.2.2.1 hr.2.2.2
        have b1 := bL j j1 hj
        have b2 := bL _ hr.2.2.1 hr.2.2.2
        have q1 := hol j j1 hj
        have q2 := hol _ hr.2.2.1 hr.2.2.2
        have z1 : lg_cmp (lZ (ordT one ok pt heap j)) 0 = iZ 0 ↔ ordT one ok pt heap j = 0 := by
          rw [lg_eq, lZ_lit]; exact lZ_inj (by omega) (by omega)
        have z2 : lg_cmp (lZ (ordT one ok pt heap (ndn heap j))) 0 = iZ 0 ↔ ordT one ok pt heap (ndn heap j) = 0 := by
          rw [lg_eq, lZ_lit]; exact lZ_inj (by omega) (by omega)
        have hnd' : iZ (heap : Int) &&& (iZ (j : Int) ^^^ iZ (-1)) = iZ ((ndn heap j : Nat) : Int) := iZ_ndn heap j
        by_cases e1 : ordT one ok pt heap j = 0 ∨ ordT one ok pt heap (ndn heap j) = 0
        · have fz : f j = 0 := by
            rw [ef]
            show @ite _ (hlf one ok heap j ∧ pt heap j) (Classical.propDecidable _) (ordT one ok pt heap j * ordT one ok pt heap (ndn heap j)) 0 = 0
            by_cases z : hlf one ok heap j ∧ pt heap j
            · rw [if_pos z]
              rcases e1 with w | w
              · rw [w, Int.zero_mul]
              · rw [w, Int.mul_zero]
            · rw [if_neg z]
          refine ⟨K, ?_, i1, ?_, ?_⟩
          · generalize eq1 : ordT one ok pt heap j = t1 at *
            generalize ordT one ok pt heap (ndn heap j) = t2 at *
            generalize ndn heap j = rs at *
            by_cases w : t1 = 0
            · have lg1 : lg_cmp (lZ t1) 0 = iZ 0 := z1.mpr w
              rw [xfix_unf, sX2_fillHeap_15]
              simp (disch := omega) only [xk_none, xk_inl, xk_inr, xk_ite, xri_v, xrl_v, xrv_v, xb_z0, xb_z1, xb_b2, if_true, if_false, ite_true, ite_false, iZ_lit, iZ_m1, iZ_m99, iZ_m8, iZ_add, iZ_sub, iZ_mul, iZ_neg, nz0, nzi, iZ_lt, iZ_le, iZ_inj, b2_z, b2_o, ite_bPz, ite_bPo, xb_bP, iZ_xin, if_pos, ite_self, ↓reduceIte, Int.reduceAdd, Int.reduceSub, Int.reduceMul, Int.reduceNeg, Int.reduceLT, Int.reduceLE, if_neg, ↓xri_some hnh, ↓xri_some han, iZ_clampN, c1, lg1, hL]
            · have w2 : t2 = 0 := e1.elim (fun z => absurd z w) id
              have lg1 : ¬ lg_cmp (lZ t1) 0 = iZ 0 := fun q => w (z1.mp q)
              have lg2 : lg_cmp (lZ t2) 0 = iZ 0 := z2.mpr w2
              rw [xfix_unf, sX2_fillHeap_15]
              simp (disch := omega) only [xk_none, xk_inl, xk_inr, xk_ite, xri_v, xrl_v, xrv_v, xb_z0, xb_z1, xb_b2, if_true, if_false, ite_true, ite_false, iZ_lit, iZ_m1, iZ_m99, iZ_m8, iZ_add, iZ_sub, iZ_mul, iZ_neg, nz0, nzi, iZ_lt, iZ_le, iZ_inj, b2_z, b2_o, ite_bPz, ite_bPo, xb_bP, iZ_xin, if_pos, ite_self, ↓reduceIte, Int.reduceAdd, Int.reduceSub, Int.reduceMul, Int.reduceNeg, Int.reduceLT, Int.reduceLE, if_neg, ↓xri_some hnh, ↓xri_some han, iZ_clampN, hnd', c1, c2, if_neg lg1, lg2, hL]
          · rw [eS, fz, ite_self, Int.add_zero]; exact i2
          · rw [leaP_S, if_neg fun z => e1.elim (fun w => q1.mpr z.2.1 w) (fun w => q2.mpr z.2.2 w)]; exact i3
        · have n1 : ordT one ok pt heap j ≠ 0 := fun z => e1 (.inl z)
          have n2 : ordT one ok pt heap (ndn heap j) ≠ 0 := fun z => e1 (.inr z)
          have n3 := q1.mp n1
          have n4 := q2.mp n2
          have hJK : cJt K A := hJ.sm i1 (by simp) (by simp) (by simp)
          have hWK : cWy K kw (aP A) B := hW.sm i1 (by simp)
          have hgd := x_goodWays (M := K) (k := kw) hA hJK hWK hB h512 (Nat.lt_trans hj hh) (ndn_and.mpr hs)
          have eg : gwS A B heap j = msk (gw heap j) 6 := msk_cg fun w hw => (y5 heap j w hh hs hw).symm
          rw [eg] at hgd
          have gl : msk (gw heap j) 6 < 64 := msk_lt _ 6
          have gnz : msk (gw heap j) 6 ≠ 0 ↔ pt heap j := by
            rw [(y4 heap j hh j1 hj hs).1]
            constructor
            · intro z
              refine Classical.byContradiction fun w => z (msk_e fun i hi q => w ⟨i, hi, q⟩)
            · rintro ⟨w, w1, w2⟩ z
              have := (msk_bit (gw heap j) 6 w).mpr ⟨w1, w2⟩
              rw [z, Nat.zero_testBit] at this; cases this
          have lbp := leaP_b (one := one) (ok := ok) (gw := gw) (cst := cstA A) h1 (fun w hw => hcst heap w hw) bL j (by omega)
          have hpK : ∀ w, w < 7 → xI K (53, 0) w = iZ (aPr A w) := fun w hw => by rw [(i1 (53, 0) w (by simp)).1]; exact hp w hw
          have hNK : iZ (aPr A 6) * xI K (23, 0) heap = iZ ((aPr A 6 : Int) * (hnd A heap : Int)) := by rw [(i1 (23, 0) heap (by simp)).1]; exact hN
          have step : ∀ K2 : xM, xSm (fun r j => j = heap ∧ r = (30, k)) K K2 → ∃ K', fX2_tryCut [.inr (.inr (2, k)), .inl (iZ (heap)), .inl (iZ (j)), .inl (iZ ((msk (gw heap j) 6)))] K2 = some (none, K') ∧ xSm (fun r j => j = heap ∧ orF k r) M K' ∧ xL K' (30, k) heap = xL K2 (30, k) heap ∧ cLe K' k heap (leaP one ok gw (cstA A) heap (leaT one ok gw (cstA A) heap) (j + 1)) := fun K2 s2 => by
            have fI : ∀ r j, xI K2 r j = xI K r j ∨ (j = heap ∧ r = (30, k)) := fun r j' => by
              by_cases z : j' = heap ∧ r = (30, k)
              · exact .inr z
              · exact .inl (s2 r j' z).1
            have g1 : xI K2 (31, k) j = iZ (leaT one ok gw (cstA A) heap j).1 := by rw [(s2 (31, k) j (by simp)).1]; exact l1
            have g2 : xI K2 (31, k) (ndn heap j) = iZ (leaT one ok gw (cstA A) heap (ndn heap j)).1 := by rw [(s2 (31, k) _ (by simp)).1]; exact l2
            have g3 : cLe K2 k heap (leaP one ok gw (cstA A) heap (leaT one ok gw (cstA A) heap) j) := ⟨by rw [(s2 (31, k) heap (by simp)).1]; exact i3.1, fun z => by rw [(s2 (32, k) heap (by simp)).1, (s2 (33, k) heap (by simp)).1]; exact i3.2 z⟩
            obtain ⟨K', d1, d2, d3⟩ := x_tryCut (M := K2) (k := k) (gw := gw) hA h512 hs g1 g2 (by omega) (by omega) (fun w hw => by rw [(s2 (53, 0) w (by simp)).1]; exact hpK w hw) (by rw [(s2 (23, 0) heap (by simp)).1]; exact hNK) g3 (by omega)
            refine ⟨K', d1, (i1.tr (s2.wk fun r j z => ⟨z.1, .inl z.2⟩)).tr (d2.wk fun r j z => ⟨z.1, .inr z.2⟩), (d2 (30, k) heap (by simp)).2, ?_⟩
            rw [leaP_S, if_pos ⟨⟨ho, j1, hs, okj⟩, n3, n4⟩]
            exact d3
          have hfirst : iZ (j : Int) &&& iZ ((2 ^ p : Nat) : Int) = iZ ((j &&& 2 ^ p : Nat) : Int) := iZ_and j (2 ^ p)
          have hfz : j &&& 2 ^ p ≠ 0 ↔ j.testBit p = true := by
            rw [and_nz]
            constructor
            · rintro ⟨i, w1, w2⟩
              rw [Nat.testBit_two_pow, decide_eq_true_eq] at w2
              rw [w2]; exact w1
            · exact fun w => ⟨p, w, by rw [Nat.testBit_two_pow, decide_eq_true_eq]⟩
          have hfl : j &&& 2 ^ p < 512 := Nat.lt_of_le_of_lt Nat.and_le_left (by omega)
          have lg1 : ¬ lg_cmp (lZ (ordT one ok pt heap j)) 0 = iZ 0 := fun q => n1 (z1.mp q)
          have lg2 : ¬ lg_cmp (lZ (ordT one ok pt heap (ndn heap j))) 0 = iZ 0 := fun q => n2 (z2.mp q)
          by_cases u : pt heap j ∧ j.testBit p = true
          · obtain ⟨K', d1, d2, d3, d4⟩ := step (xpL K (30, k) heap (lZ (sm (fun j => if j.testBit p = true then f j else 0) j + ordT one ok pt heap j * ordT one ok pt heap (ndn heap j)))) (xSm.rf.pL ⟨rfl, rfl⟩)
            have fj : f j = ordT one ok pt heap j * ordT one ok pt heap (ndn heap j) := by rw [ef]; exact if_pos ⟨⟨ho, j1, hs, okj⟩, u.1⟩
            refine ⟨K', ?_, d2, ?_, d4⟩
            · have nz := gnz.mpr u.1
              have nf := hfz.mpr u.2
              generalize sm (fun j => if j.testBit p = true then f j else 0) j = ss at *
              generalize msk (gw heap j) 6 = gm at *
              generalize (j &&& 2 ^ p : Nat) = jp at *
              generalize ordT one ok pt heap j = t1 at *
              generalize ordT one ok pt heap (ndn heap j) = t2 at *
              generalize ndn heap j = rs at *
              rw [xfix_unf, sX2_fillHeap_15]
              simp (disch := omega) only [xk_none, xk_inl, xk_inr, xk_ite, xri_v, xrl_v, xrv_v, xb_z0, xb_z1, xb_b2, if_true, if_false, ite_true, ite_false, iZ_lit, iZ_m1, iZ_m99, iZ_m8, iZ_add, iZ_sub, iZ_mul, iZ_neg, nz0, nzi, iZ_lt, iZ_le, iZ_inj, b2_z, b2_o, ite_bPz, ite_bPo, xb_bP, iZ_xin, if_pos, ite_self, ↓reduceIte, Int.reduceAdd, Int.reduceSub, Int.reduceMul, Int.reduceNeg, Int.reduceLT, Int.reduceLE, if_neg, ↓xri_some hnh, ↓xri_some han, iZ_clampN, hnd', c1, c2, if_neg lg1, if_neg lg2, ↓xri_some hgd, hfirst, i2, lZ_mul, lZ_add, d1, hL]
            · rw [d3, xL_pL, if_pos ⟨rfl, rfl⟩, eS, if_pos u.2, fj]
          · obtain ⟨K', d1, d2, d3, d4⟩ := step K xSm.rf
            refine ⟨K', ?_, d2, ?_, d4⟩
            · generalize ordT one ok pt heap j = t1 at *
              generalize ordT one ok pt heap (ndn heap j) = t2 at *
              by_cases u1 : pt heap j
              · have nz := gnz.mpr u1
                have nf : ¬ (j &&& 2 ^ p ≠ 0) := fun z => u ⟨u1, hfz.mp z⟩
                generalize msk (gw heap j) 6 = gm at *
                generalize (j &&& 2 ^ p : Nat) = jp at *
                generalize ndn heap j = rs at *
                rw [xfix_unf, sX2_fillHeap_15]
                simp (disch := omega) only [xk_none, xk_inl, xk_inr, xk_ite, xri_v, xrl_v, xrv_v, xb_z0, xb_z1, xb_b2, if_true, if_false, ite_true, ite_false, iZ_lit, iZ_m1, iZ_m99, iZ_m8, iZ_add, iZ_sub, iZ_mul, iZ_neg, nz0, nzi, iZ_lt, iZ_le, iZ_inj, b2_z, b2_o, ite_bPz, ite_bPo, xb_bP, iZ_xin, if_pos, ite_self, ↓reduceIte, Int.reduceAdd, Int.reduceSub, Int.reduceMul, Int.reduceNeg, Int.reduceLT, Int.reduceLE, if_neg, ↓xri_some hnh, ↓xri_some han, iZ_clampN, hnd', c1, c2, if_neg lg1, if_neg lg2, ↓xri_some hgd, hfirst, d1, hL]
              · have nz : ¬ (msk (gw heap j) 6 ≠ 0) := fun z => u1 (gnz.mp z)
                generalize msk (gw heap j) 6 = gm at *
                generalize ndn heap j = rs at *
                rw [xfix_unf, sX2_fillHeap_15]
                simp (disch := omega) only [xk_none, xk_inl, xk_inr, xk_ite, xri_v, xrl_v, xrv_v, xb_z0, xb_z1, xb_b2, if_true, if_false, ite_true, ite_false, iZ_lit, iZ_m1, iZ_m99, iZ_m8, iZ_add, iZ_sub, iZ_mul, iZ_neg, nz0, nzi, iZ_lt, iZ_le, iZ_inj, b2_z, b2_o, ite_bPz, ite_bPo, xb_bP, iZ_xin, if_pos, ite_self, ↓reduceIte, Int.reduceAdd, Int.reduceSub, Int.reduceMul, Int.reduceNeg, Int.reduceLT, Int.reduceLE, if_neg, ↓xri_some hnh, ↓xri_some han, iZ_clampN, hnd', c1, c2, if_neg lg1, if_neg lg2, ↓xri_some hgd, d1, hL]
            · rw [d3, eS]
              have fz : (if j.testBit p = true then f j else 0) = 0 := by
                by_cases w : j.testBit p = true
                · rw [if_pos w, ef]; exact if_neg fun z => u ⟨z.2, w⟩
                · rw [if_neg w]
              rw [fz, Int.add_zero]; exact i2
      · rw [bP_f a1] at han
        have nok : ¬ ok heap j := fun z => a1 ((y2 heap j hh hn hs).mp z)
        have fz : f j = 0 := by rw [ef]; exact if_neg fun z => nok z.1.2.2.2
        refine ⟨K, ?_, i1, ?_, ?_⟩
        · rw [xfix_unf, sX2_fillHeap_15]
          simp (disch := omega) only [xk_none, xk_inl, xk_inr, xk_ite, xri_v, xrl_v, xrv_v, xb_z0, xb_z1, xb_b2, if_true, if_false, ite_true, ite_false, iZ_lit, iZ_m1, iZ_m99, iZ_m8, iZ_add, iZ_sub, iZ_mul, iZ_neg, nz0, nzi, iZ_lt, iZ_le, iZ_inj, b2_z, b2_o, ite_bPz, ite_bPo, xb_bP, iZ_xin, if_pos, ite_self, ↓reduceIte, Int.reduceAdd, Int.reduceSub, Int.reduceMul, Int.reduceNeg, Int.reduceLT, Int.reduceLE, if_neg, ↓xri_some hnh, ↓xri_some han, hL]
        · rw [eS, fz, ite_self, Int.add_zero]; exact i2
        · rw [leaP_S, if_neg fun z => nok z.1.2.2.2]; exact i3) (x := M) ⟨xSm.rf, by
      have : sm (fun j => if j.testBit p = true then f j else 0) 1 = 0 := by
        show 0 + (if (0 : Nat).testBit p = true then f 0 else 0) = 0
        rw [f0', ite_self]; rfl
      rw [this]; exact f30, by
      rw [leaP_1, if_neg ho]; exact ⟨f31, fun z => absurd rfl z⟩⟩
  refine ⟨M', ?_, t2, by rw [eo, ← tot]; exact t3, by rw [el]; exact t4⟩
  have hp2 : (2 : Nat) ≤ 2 ^ bc heap := by
    have bh : bc heap ≠ 0 := fun z => by have := (bc_0 h512).mp z; omega
    calc 2 = 2 ^ 1 := rfl
      _ ≤ 2 ^ bc heap := Nat.pow_le_pow_right (by omega) (by omega)
  have t0 : fX2_fillHeap [.inr (.inr (2, k)), .inr (.inr (10, kw)), .inl (iZ (heap)), .inl (iZ (g))] M = xfix gX2_fillHeap (15, [some (.inr (.inr (2, k))), some (.inr (.inr (10, kw))), some (.inl (iZ (heap))), some (.inl (iZ (g))), some (.inl (iZ ((2 ^ p : Nat)))), some (.inl (iZ (((0 : Nat))))), some (.inl (iZ (((2 ^ bc heap - 2 : Nat))))), none, none], [], M) := by
    have zz : ((0 : Nat) : Int) = 0 := rfl
    have ep2 : ((2 ^ bc heap - 2 : Nat) : Int) = ((2 ^ bc heap : Nat) : Int) - 2 := by omega
    have hlo := lowb_d heap h512
    rw [elow] at hlo
    rw [zz, ep2]
    generalize ((2 ^ bc heap : Nat) : Int) - 2 = H at *
    generalize ((2 ^ p : Nat) : Int) = fp at *
    show xfix gX2_fillHeap (0, [some (.inr (.inr (2, k))), some (.inr (.inr (10, kw))), some (.inl (iZ (heap))), some (.inl (iZ (g))), none, none, none, none, none], [], M) = _; rw [xfix_unf, sX2_fillHeap_0]
    simp (disch := omega) only [xk_none, xk_inl, xk_inr, xk_ite, xri_v, xrl_v, xrv_v, xb_z0, xb_z1, xb_b2, if_true, if_false, ite_true, ite_false, iZ_lit, iZ_m1, iZ_m99, iZ_m8, iZ_add, iZ_sub, iZ_mul, iZ_neg, nz0, nzi, iZ_lt, iZ_le, iZ_inj, b2_z, b2_o, ite_bPz, ite_bPo, xb_bP, iZ_xin, if_pos, ite_self, ↓reduceIte, Int.reduceAdd, Int.reduceSub, Int.reduceMul, Int.reduceNeg, Int.reduceLT, Int.reduceLE, if_neg, hx, hlo]
  refine t0.trans (t1.trans ?_)
  have zz : ((0 : Nat) : Int) = 0 := rfl
  rw [zz]
  rw [xfix_unf, sX2_fillHeap_15]
  simp (disch := omega) only [xk_none, xk_inl, xk_inr, xk_ite, xri_v, xrl_v, xrv_v, xb_z0, xb_z1, xb_b2, if_true, if_false, ite_true, ite_false, iZ_lit, iZ_m1, iZ_m99, iZ_m8, iZ_add, iZ_sub, iZ_mul, iZ_neg, nz0, nzi, iZ_lt, iZ_le, iZ_inj, b2_z, b2_o, ite_bPz, ite_bPo, xb_bP, iZ_xin, if_pos, ite_self, ↓reduceIte, Int.reduceAdd, Int.reduceSub, Int.reduceMul, Int.reduceNeg, Int.reduceLT, Int.reduceLE, if_neg]
