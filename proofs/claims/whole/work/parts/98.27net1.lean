/-! the class: partings and rounds -/
/-- the least of some values, -1 without one -/
noncomputable def mnF (c : Nat → Prop) (v : Nat → Int) (r0 : Int) : Nat → Int
  | 0 => r0
  | k + 1 => @ite _ (c k ∧ v k ≠ -1 ∧ (mnF c v r0 k = -1 ∨ v k < mnF c v r0 k)) (Classical.propDecidable _) (v k) (mnF c v r0 k)
theorem mnF_is {c : Nat → Prop} {v : Nat → Int} (hv : ∀ k, -1 ≤ v k) : ∀ n, (mnF c v (-1) n = -1 → ∀ k, k < n → c k → v k = -1) ∧ (mnF c v (-1) n ≠ -1 → (∃ k, k < n ∧ c k ∧ v k = mnF c v (-1) n) ∧ ∀ k, k < n → c k → v k ≠ -1 → mnF c v (-1) n ≤ v k)
  | 0 => ⟨fun _ k hk => by omega, fun h => absurd rfl h⟩
  | n + 1 => by
    obtain ⟨i1, i2⟩ := mnF_is (c := c) hv n
    have e : mnF c v (-1) (n + 1) = @ite _ (c n ∧ v n ≠ -1 ∧ (mnF c v (-1) n = -1 ∨ v n < mnF c v (-1) n)) (Classical.propDecidable _) (v n) (mnF c v (-1) n) := rfl
    by_cases y : c n ∧ v n ≠ -1 ∧ (mnF c v (-1) n = -1 ∨ v n < mnF c v (-1) n)
    · rw [e, if_pos y]
      refine ⟨fun z => absurd z y.2.1, fun _ => ⟨⟨n, by omega, y.1, rfl⟩, fun k hk hc hn => ?_⟩⟩
      by_cases w : k = n
      · rw [w]; omega
      · by_cases w2 : mnF c v (-1) n = -1
        · exact absurd (i1 w2 k (by omega) hc) hn
        · have := (i2 w2).2 k (by omega) hc hn
          have := y.2.2.resolve_left w2
          omega
    · rw [e, if_neg y]
      refine ⟨fun z k hk hc => ?_, fun z => ⟨?_, fun k hk hc hn => ?_⟩⟩
      · by_cases w : k = n
        · subst w
          exact Classical.byContradiction fun q => y ⟨hc, q, .inl z⟩
        · exact i1 z k (by omega) hc
      · obtain ⟨k, q1, q2⟩ := (i2 z).1
        exact ⟨k, by omega, q2⟩
      · by_cases w : k = n
        · subst w
          exact Classical.byContradiction fun q => y ⟨hc, hn, .inr (by omega)⟩
        · exact (i2 z).2 k (by omega) hc hn
theorem mnF_cg {c c' : Nat → Prop} {v : Nat → Int} (hv : ∀ k, -1 ≤ v k) {n : Nat} (h1 : ∀ k, k < n → c k → ∃ k', k' < n ∧ c' k' ∧ v k' = v k) (h2 : ∀ k, k < n → c' k → ∃ k', k' < n ∧ c k' ∧ v k' = v k) : mnF c v (-1) n = mnF c' v (-1) n := by
  obtain ⟨a1, a2⟩ := mnF_is (c := c) hv n
  obtain ⟨b1, b2⟩ := mnF_is (c := c') hv n
  by_cases x : mnF c v (-1) n = -1
  · by_cases y : mnF c' v (-1) n = -1
    · rw [x, y]
    · obtain ⟨⟨k, q1, q2, q3⟩, _⟩ := b2 y
      obtain ⟨k', r1, r2, r3⟩ := h2 k q1 q2
      have := a1 x k' r1 r2
      omega
  · obtain ⟨⟨k, q1, q2, q3⟩, q4⟩ := a2 x
    obtain ⟨k', r1, r2, r3⟩ := h1 k q1 q2
    by_cases y : mnF c' v (-1) n = -1
    · have := b1 y k' r1 r2; omega
    · obtain ⟨⟨j, s1, s2, s3⟩, s4⟩ := b2 y
      obtain ⟨j', u1, u2, u3⟩ := h2 j s1 s2
      have := s4 k' r1 r2 (by omega)
      have := q4 j' u1 u2 (by omega)
      omega
theorem x_tryRounds {M : xM} {heap : Nat} {a b r : Int} (hh : heap < 512) (ha : -1 ≤ a ∧ a ≤ 600) (hb : -1 ≤ b ∧ b ≤ 600) (hr : -1 ≤ r ∧ r ≤ 700) (f : xI M (25, 0) heap = iZ r) : fX1_tryRounds [.inr (.inr (1, 0)), .inl (iZ (heap)), .inl (iZ (a)), .inl (iZ (b))] M = some (none, if rnd2 a b ≠ -1 ∧ (r = -1 ∨ rnd2 a b < r) then xpI M (25, 0) heap (iZ (rnd2 a b)) else M) := by
  have hm := x_max (M := M) (a := a) (b := b) (by unfold r32; omega) (by unfold r32; omega)
  by_cases c1 : a = -1
  · have e1 : rnd2 a b = -1 := by unfold rnd2; rw [if_pos (.inl c1)]
    rw [e1, if_neg (fun z => z.1 rfl)]
    have hq : (if a < b then b else a) ≤ 600 := by split <;> omega
    generalize (if a < b then b else a) = m at *
    show xfix gX1_tryRounds (0, [some (.inr (.inr (1, 0))), some (.inl (iZ (heap))), some (.inl (iZ (a))), some (.inl (iZ (b))), none], [], M) = _; rw [xfix_unf, sX1_tryRounds_0]
    simp (disch := omega) only [xk_none, xk_inl, xk_inr, xk_ite, xri_v, xrl_v, xrv_v, xb_z0, xb_z1, xb_b2, if_true, if_false, ite_true, ite_false, iZ_lit, iZ_m1, iZ_m99, iZ_m8, iZ_add, iZ_sub, iZ_mul, iZ_neg, nz0, nzi, iZ_lt, iZ_le, iZ_inj, b2_z, b2_o, ite_bPz, ite_bPo, xb_bP, iZ_xin, if_pos, ite_self, ↓reduceIte, Int.reduceAdd, Int.reduceSub, Int.reduceMul, Int.reduceNeg, Int.reduceLT, Int.reduceLE, if_neg, hm]
  · by_cases c2 : b = -1
    · have e1 : rnd2 a b = -1 := by unfold rnd2; rw [if_pos (.inr c2)]
      rw [e1, if_neg (fun z => z.1 rfl)]
      generalize (if a < b then b else a) = m at *
      show xfix gX1_tryRounds (0, [some (.inr (.inr (1, 0))), some (.inl (iZ (heap))), some (.inl (iZ (a))), some (.inl (iZ (b))), none], [], M) = _; rw [xfix_unf, sX1_tryRounds_0]
      simp (disch := omega) only [xk_none, xk_inl, xk_inr, xk_ite, xri_v, xrl_v, xrv_v, xb_z0, xb_z1, xb_b2, if_true, if_false, ite_true, ite_false, iZ_lit, iZ_m1, iZ_m99, iZ_m8, iZ_add, iZ_sub, iZ_mul, iZ_neg, nz0, nzi, iZ_lt, iZ_le, iZ_inj, b2_z, b2_o, ite_bPz, ite_bPo, xb_bP, iZ_xin, if_pos, ite_self, ↓reduceIte, Int.reduceAdd, Int.reduceSub, Int.reduceMul, Int.reduceNeg, Int.reduceLT, Int.reduceLE, if_neg, hm]
    · have e1 : rnd2 a b = 1 + (if b < a then a else b) := by unfold rnd2; rw [if_neg (fun z => z.elim c1 c2)]
      rw [e1]
      have em : (if b < a then a else b) = if a < b then b else a := by
        by_cases w : a < b
        · rw [if_pos w, if_neg (by omega)]
        · rw [if_neg w]
          by_cases w2 : b < a
          · rw [if_pos w2]
          · rw [if_neg w2]; omega
      rw [em]
      have hq : 0 ≤ (if a < b then b else a) ∧ (if a < b then b else a) ≤ 600 := by split <;> omega
      generalize (if a < b then b else a) = m at *
      by_cases c3 : r = -1
      · rw [if_pos ⟨by omega, .inl c3⟩]
        show xfix gX1_tryRounds (0, [some (.inr (.inr (1, 0))), some (.inl (iZ (heap))), some (.inl (iZ (a))), some (.inl (iZ (b))), none], [], M) = _; rw [xfix_unf, sX1_tryRounds_0]
        simp (disch := omega) only [xk_none, xk_inl, xk_inr, xk_ite, xri_v, xrl_v, xrv_v, xb_z0, xb_z1, xb_b2, if_true, if_false, ite_true, ite_false, iZ_lit, iZ_m1, iZ_m99, iZ_m8, iZ_add, iZ_sub, iZ_mul, iZ_neg, nz0, nzi, iZ_lt, iZ_le, iZ_inj, b2_z, b2_o, ite_bPz, ite_bPo, xb_bP, iZ_xin, if_pos, ite_self, ↓reduceIte, Int.reduceAdd, Int.reduceSub, Int.reduceMul, Int.reduceNeg, Int.reduceLT, Int.reduceLE, if_neg, hm, iZ_clampN, f]
      · by_cases c4 : 1 + m < r
        · rw [if_pos ⟨by omega, .inr c4⟩]
          show xfix gX1_tryRounds (0, [some (.inr (.inr (1, 0))), some (.inl (iZ (heap))), some (.inl (iZ (a))), some (.inl (iZ (b))), none], [], M) = _; rw [xfix_unf, sX1_tryRounds_0]
          simp (disch := omega) only [xk_none, xk_inl, xk_inr, xk_ite, xri_v, xrl_v, xrv_v, xb_z0, xb_z1, xb_b2, if_true, if_false, ite_true, ite_false, iZ_lit, iZ_m1, iZ_m99, iZ_m8, iZ_add, iZ_sub, iZ_mul, iZ_neg, nz0, nzi, iZ_lt, iZ_le, iZ_inj, b2_z, b2_o, ite_bPz, ite_bPo, xb_bP, iZ_xin, if_pos, ite_self, ↓reduceIte, Int.reduceAdd, Int.reduceSub, Int.reduceMul, Int.reduceNeg, Int.reduceLT, Int.reduceLE, if_neg, hm, iZ_clampN, f]
        · rw [if_neg (fun z => z.2.elim c3 c4)]
          show xfix gX1_tryRounds (0, [some (.inr (.inr (1, 0))), some (.inl (iZ (heap))), some (.inl (iZ (a))), some (.inl (iZ (b))), none], [], M) = _; rw [xfix_unf, sX1_tryRounds_0]
          simp (disch := omega) only [xk_none, xk_inl, xk_inr, xk_ite, xri_v, xrl_v, xrv_v, xb_z0, xb_z1, xb_b2, if_true, if_false, ite_true, ite_false, iZ_lit, iZ_m1, iZ_m99, iZ_m8, iZ_add, iZ_sub, iZ_mul, iZ_neg, nz0, nzi, iZ_lt, iZ_le, iZ_inj, b2_z, b2_o, ite_bPz, ite_bPo, xb_bP, iZ_xin, if_pos, ite_self, ↓reduceIte, Int.reduceAdd, Int.reduceSub, Int.reduceMul, Int.reduceNeg, Int.reduceLT, Int.reduceLE, if_neg, hm, iZ_clampN, f]
theorem rnd2_c (a b : Int) : rnd2 a b = rnd2 b a := by
  unfold rnd2
  by_cases c : a = -1 ∨ b = -1
  · rw [if_pos c, if_pos c.symm]
  · rw [if_neg c, if_neg (c := b = -1 ∨ a = -1) (fun z => c z.symm)]
    by_cases w : b < a
    · rw [if_pos w, if_neg (c := a < b) (by omega)]
    · rw [if_neg w]
      by_cases w2 : a < b
      · rw [if_pos w2]
      · rw [if_neg w2]; omega
theorem x_fillPartings {M : xM} {A : dA} {heap : Nat} (hA : aOk A) (hJ : cJt M A) (hW : cWy M 0 (aP A) (barS A)) (hB : ∀ k, barS A k < 512) (h1 : 1 ≤ heap) (hh : heap < 2 ^ aP A) (hR : ∀ k, 1 ≤ k → k < heap → xI M (25, 0) k = iZ (rndA A k)) : ∃ M', fX1_fillPartings [.inr (.inr (1, 0)), .inl (iZ (heap))] M = some (none, M') ∧ xSm (fun r j => j = heap ∧ (r = (24, 0) ∨ r = (25, 0))) M M' ∧ xI M' (24, 0) heap = iZ (ptC A (barS A) heap heap) ∧ xI M' (25, 0) heap = iZ (rndA A heap) := by
  have hP := hA.P
  have h512 := Nat.lt_of_lt_of_le hh (pow9 hP).2
  obtain ⟨lw1, p, lp, ep, lb⟩ := low_is h1 h512
  have elow : lowb heap = 2 ^ p := ep
  have hpb : heap.testBit p = true := (lb p lp).mpr (.inr rfl)
  have bR : ∀ k, 1 ≤ k → -1 ≤ rndA A k ∧ rndA A k ≤ k := fun k k1 => rndA_b k1
  -- what is kept so far
  obtain ⟨f, ef⟩ : ∃ f : Nat → Int, f = fun k => ind (1 ≤ k ∧ k &&& heap = k ∧ prt A (barS A) heap k) := ⟨_, rfl⟩
  obtain ⟨v, ev⟩ : ∃ v : Nat → Int, v = fun k => if 1 ≤ k ∧ k < heap ∧ k &&& heap = k then rnd2 (rndA A k) (rndA A (ndn heap k)) else -1 := ⟨_, rfl⟩
  obtain ⟨c, ec⟩ : ∃ c : Nat → Prop, c = fun k => 1 ≤ k ∧ k < heap ∧ k &&& heap = k ∧ prt A (barS A) heap k ∧ k.testBit p = true := ⟨_, rfl⟩
  have rs : ∀ k, 1 ≤ k → k < heap → k &&& heap = k → ndn heap k + k = heap ∧ 1 ≤ ndn heap k ∧ ndn heap k < heap := fun k k1 k2 k3 => by
    have hr := hlf_rest (one := fun _ => False) (ok := fun _ _ => True) (heap := heap) (half := k) ⟨id, k1, k3, trivial⟩ k2
    exact ⟨hr.1, hr.2.2⟩
  have hv : ∀ k, -1 ≤ v k := fun k => by
    rw [ev]
    show -1 ≤ if 1 ≤ k ∧ k < heap ∧ k &&& heap = k then rnd2 (rndA A k) (rndA A (ndn heap k)) else -1
    by_cases z : 1 ≤ k ∧ k < heap ∧ k &&& heap = k
    · rw [if_pos z]
      obtain ⟨r1, r2, r3⟩ := rs k z.1 z.2.1 z.2.2
      exact (rnd2_b (n := heap) (bR k z.1) (bR _ r2) z.2.1 r3).1
    · rw [if_neg z]; omega
  have totP : sm (fun k => if k.testBit p = true then f k else 0) heap = ptC A (barS A) heap heap := by
    rw [sm_pair h1 (c := fun k => k.testBit p = true) (fun k _ hk => by rw [ef]; exact ind_f fun z => hk z.2.1) (by rw [ef]; exact ind_f fun z => by omega) (fun k k1 k2 k3 => by
      obtain ⟨r1, r2, r3⟩ := rs k k1 k2 k3
      have q := (prt_gw hP (barS_sym A) hh k3).2
      rw [ef]
      show ind (1 ≤ ndn heap k ∧ ndn heap k &&& heap = ndn heap k ∧ prt A (barS A) heap (ndn heap k)) = ind (1 ≤ k ∧ k &&& heap = k ∧ prt A (barS A) heap k)
      congr 1
      exact propext ⟨fun z => ⟨k1, k3, q.mp z.2.2⟩, fun z => ⟨r2, ndn_ss heap k, q.mpr z.2.2⟩⟩) (fun j j1 j2 j3 => by
      show (ndn heap j).testBit p = true ↔ ¬ j.testBit p = true
      rw [ndn_bit, hpb, Bool.true_and]
      cases j.testBit p <;> simp)]
    refine sm_cg fun k _ => ?_
    rw [ef]
    show (if k < ndn heap k then ind (1 ≤ k ∧ k &&& heap = k ∧ prt A (barS A) heap k) else 0) = ind (ptW A (barS A) heap k)
    by_cases z : k < ndn heap k
    · rw [if_pos z]
      congr 1
      exact propext ⟨fun q => ⟨q.1, q.2.1, z, q.2.2⟩, fun q => ⟨q.1, q.2.1, q.2.2.2⟩⟩
    · rw [if_neg z, ind_f fun q => z q.2.2.1]
  have totR : mnF c v (if bc heap = 1 then 0 else -1) heap = rndA A heap := by
    have noH : bc heap = 1 → ∀ k, 1 ≤ k → k < heap → k &&& heap = k → False := fun h k k1 k2 k3 => bc_1 h512 h k3 k1 k2
    have eR : rndA A heap = mnF (fun k => 1 ≤ k ∧ k < heap ∧ k &&& heap = k ∧ k < ndn heap k ∧ prt A (barS A) heap k) v (if bc heap = 1 then 0 else -1) heap := by
      rw [rndA_eq]
      have key : ∀ i, i ≤ heap → rndP (prt A (barS A)) heap (rndT (prt A (barS A)) heap) i = mnF (fun k => 1 ≤ k ∧ k < heap ∧ k &&& heap = k ∧ k < ndn heap k ∧ prt A (barS A) heap k) v (if bc heap = 1 then 0 else -1) i := fun i => by
        induction i with
        | zero => exact fun _ => rfl
        | succ i ih =>
          intro hi
          have e1 : rndP (prt A (barS A)) heap (rndT (prt A (barS A)) heap) (i + 1) = @ite _ (hlf (fun h => bc h = 1) (fun _ _ => True) heap i ∧ i < ndn heap i ∧ prt A (barS A) heap i ∧ rnd2 (rndT (prt A (barS A)) heap i) (rndT (prt A (barS A)) heap (ndn heap i)) ≠ -1 ∧ (rndP (prt A (barS A)) heap (rndT (prt A (barS A)) heap) i = -1 ∨ rnd2 (rndT (prt A (barS A)) heap i) (rndT (prt A (barS A)) heap (ndn heap i)) < rndP (prt A (barS A)) heap (rndT (prt A (barS A)) heap) i)) (Classical.propDecidable _) (rnd2 (rndT (prt A (barS A)) heap i) (rndT (prt A (barS A)) heap (ndn heap i))) (rndP (prt A (barS A)) heap (rndT (prt A (barS A)) heap) i) := rfl
          have e2 : ∀ (cc : Nat → Prop) (r0 : Int), mnF cc v r0 (i + 1) = @ite _ (cc i ∧ v i ≠ -1 ∧ (mnF cc v r0 i = -1 ∨ v i < mnF cc v r0 i)) (Classical.propDecidable _) (v i) (mnF cc v r0 i) := fun _ _ => rfl
          rw [e1, e2, ← ih (by omega)]
          by_cases w : 1 ≤ i ∧ i < heap ∧ i &&& heap = i
          · obtain ⟨r1, r2, r3⟩ := rs i w.1 w.2.1 w.2.2
            have vi : v i = rnd2 (rndT (prt A (barS A)) heap i) (rndT (prt A (barS A)) heap (ndn heap i)) := by
              rw [ev, rndA_st w.2.1, rndA_st r3]; exact if_pos w
            rw [vi]
            by_cases z : (1 ≤ i ∧ i < heap ∧ i &&& heap = i ∧ i < ndn heap i ∧ prt A (barS A) heap i) ∧ rnd2 (rndT (prt A (barS A)) heap i) (rndT (prt A (barS A)) heap (ndn heap i)) ≠ -1 ∧ (rndP (prt A (barS A)) heap (rndT (prt A (barS A)) heap) i = -1 ∨ rnd2 (rndT (prt A (barS A)) heap i) (rndT (prt A (barS A)) heap (ndn heap i)) < rndP (prt A (barS A)) heap (rndT (prt A (barS A)) heap) i)
            · rw [if_pos z, if_pos ⟨⟨fun y => noH y i w.1 w.2.1 w.2.2, w.1, w.2.2, trivial⟩, z.1.2.2.2.1, z.1.2.2.2.2, z.2⟩]
            · rw [if_neg z, if_neg fun y => z ⟨⟨w.1, w.2.1, w.2.2, y.2.1, y.2.2.1⟩, y.2.2.2⟩]
          · rw [if_neg fun z => w ⟨z.1.2.1, by omega, z.1.2.2.1⟩, if_neg fun z => w ⟨z.1.1, z.1.2.1, z.1.2.2.1⟩]
      exact key heap (Nat.le_refl _)
    rw [eR]
    by_cases b1 : bc heap = 1
    · rw [if_pos b1]
      have key : ∀ (cc : Nat → Prop), (∀ k, cc k → 1 ≤ k ∧ k < heap ∧ k &&& heap = k) → ∀ i, mnF cc v 0 i = 0 := fun cc hc i => by
        induction i with
        | zero => rfl
        | succ i ih =>
          show @ite _ (cc i ∧ v i ≠ -1 ∧ (mnF cc v 0 i = -1 ∨ v i < mnF cc v 0 i)) (Classical.propDecidable _) (v i) (mnF cc v 0 i) = 0
          rw [if_neg fun z => noH b1 i (hc i z.1).1 (hc i z.1).2.1 (hc i z.1).2.2]
          exact ih
      rw [key c (fun k hk => by rw [ec] at hk; exact ⟨hk.1, hk.2.1, hk.2.2.1⟩), key _ (fun k hk => ⟨hk.1, hk.2.1, hk.2.2.1⟩)]
    · rw [if_neg b1]
      have vs : ∀ k, 1 ≤ k → k < heap → k &&& heap = k → v (ndn heap k) = v k := fun k k1 k2 k3 => by
        obtain ⟨r1, r2, r3⟩ := rs k k1 k2 k3
        rw [ev]
        show (if 1 ≤ ndn heap k ∧ ndn heap k < heap ∧ ndn heap k &&& heap = ndn heap k then rnd2 (rndA A (ndn heap k)) (rndA A (ndn heap (ndn heap k))) else -1) = if 1 ≤ k ∧ k < heap ∧ k &&& heap = k then rnd2 (rndA A k) (rndA A (ndn heap k)) else -1
        rw [if_pos ⟨r2, r3, ndn_ss heap k⟩, if_pos ⟨k1, k2, k3⟩, ndn_nn k3, rnd2_c]
      have ne : ∀ k, 1 ≤ k → k < heap → k &&& heap = k → k ≠ ndn heap k := fun k k1 k2 k3 w => by
        have hb := ndn_bit heap k
        rw [← w] at hb
        have : k = 0 := Nat.eq_of_testBit_eq fun i => by
          have qi := hb i
          cases e : k.testBit i
          · rw [Nat.zero_testBit]
          · rw [e] at qi; simp at qi
        omega
      refine mnF_cg hv (fun k hk hc => ?_) (fun k hk hc => ?_)
      · rw [ec] at hc
        obtain ⟨k1, k2, k3, k4, k5⟩ := hc
        obtain ⟨r1, r2, r3⟩ := rs k k1 k2 k3
        by_cases w : k < ndn heap k
        · exact ⟨k, hk, ⟨k1, k2, k3, w, k4⟩, rfl⟩
        · have := ne k k1 k2 k3
          exact ⟨ndn heap k, r3, ⟨r2, r3, ndn_ss heap k, by rw [ndn_nn k3]; omega, (prt_gw hP (barS_sym A) hh k3).2.mpr k4⟩, vs k k1 k2 k3⟩
      · obtain ⟨k1, k2, k3, k4, k5⟩ := hc
        obtain ⟨r1, r2, r3⟩ := rs k k1 k2 k3
        rw [ec]
        by_cases w : k.testBit p = true
        · exact ⟨k, hk, ⟨k1, k2, k3, k5, w⟩, rfl⟩
        · refine ⟨ndn heap k, r3, ⟨r2, r3, ndn_ss heap k, (prt_gw hP (barS_sym A) hh k3).2.mpr k5, ?_⟩, vs k k1 k2 k3⟩
          rw [ndn_bit, hpb, Bool.true_and]
          simpa using w
  have mb : ∀ k, k ≤ heap → -1 ≤ mnF c v (if bc heap = 1 then 0 else -1) k ∧ mnF c v (if bc heap = 1 then 0 else -1) k ≤ 512 := fun k => by
    induction k with
    | zero => intro _; show -1 ≤ (if bc heap = 1 then (0 : Int) else -1) ∧ (if bc heap = 1 then (0 : Int) else -1) ≤ 512; split <;> omega
    | succ k ih =>
      intro hk
      have i := ih (by omega)
      show -1 ≤ @ite _ (c k ∧ v k ≠ -1 ∧ (mnF c v (if bc heap = 1 then 0 else -1) k = -1 ∨ v k < mnF c v (if bc heap = 1 then 0 else -1) k)) (Classical.propDecidable _) (v k) (mnF c v (if bc heap = 1 then 0 else -1) k) ∧ @ite _ (c k ∧ v k ≠ -1 ∧ (mnF c v (if bc heap = 1 then 0 else -1) k = -1 ∨ v k < mnF c v (if bc heap = 1 then 0 else -1) k)) (Classical.propDecidable _) (v k) (mnF c v (if bc heap = 1 then 0 else -1) k) ≤ 512
      by_cases y : c k ∧ v k ≠ -1 ∧ (mnF c v (if bc heap = 1 then 0 else -1) k = -1 ∨ v k < mnF c v (if bc heap = 1 then 0 else -1) k)
      · rw [if_pos y]
        refine ⟨hv k, ?_⟩
        rw [ev]
        show (if 1 ≤ k ∧ k < heap ∧ k &&& heap = k then rnd2 (rndA A k) (rndA A (ndn heap k)) else -1) ≤ 512
        by_cases z : 1 ≤ k ∧ k < heap ∧ k &&& heap = k
        · rw [if_pos z]
          obtain ⟨r1, r2, r3⟩ := rs k z.1 z.2.1 z.2.2
          have := (rnd2_b (n := heap) (bR k z.1) (bR _ r2) z.2.1 r3).2
          omega
        · rw [if_neg z]; omega
      · rw [if_neg y]; exact i
  have t0 : ∃ K, fX1_fillPartings [.inr (.inr (1, 0)), .inl (iZ (heap))] M = xfix gX1_fillPartings (38, [some (.inr (.inr (1, 0))), some (.inl (iZ (heap))), some (.inl (iZ ((2 ^ p : Nat)))), some (.inl (iZ (((0 : Nat))))), some (.inl (iZ (((2 ^ bc heap - 2 : Nat)))))], [], K) ∧ K = xpI (xpI M (24, 0) heap (iZ 0)) (25, 0) heap (iZ (if bc heap = 1 then 0 else -1)) := by
    refine ⟨_, ?_, rfl⟩
    have ho := x_isOne (M := xpI M (24, 0) heap (iZ 0)) (heap := heap) h1 h512
    have hx := x_halvesOf (M := xpI (xpI M (24, 0) heap (iZ 0)) (25, 0) heap (iZ (if bc heap = 1 then 0 else -1))) (heap := heap) h512
    have hp2 : (2 : Nat) ≤ 2 ^ bc heap := by
      have bh : bc heap ≠ 0 := fun z => by have := (bc_0 h512).mp z; omega
      calc 2 = 2 ^ 1 := rfl
        _ ≤ 2 ^ bc heap := Nat.pow_le_pow_right (by omega) (by omega)
    have zz : ((0 : Nat) : Int) = 0 := rfl
    have ep2 : ((2 ^ bc heap - 2 : Nat) : Int) = ((2 ^ bc heap : Nat) : Int) - 2 := by omega
    have hlo := lowb_d heap h512
    rw [elow] at hlo
    rw [zz, ep2]
    generalize ((2 ^ bc heap : Nat) : Int) - 2 = H at *
    generalize ((2 ^ p : Nat) : Int) = fp at *
    by_cases b1 : bc heap = 1
    · rw [bP_t b1] at ho
      rw [if_pos b1] at hx ⊢
      show xfix gX1_fillPartings (0, [some (.inr (.inr (1, 0))), some (.inl (iZ (heap))), none, none, none], [], M) = _; rw [xfix_unf, sX1_fillPartings_0]
      simp (disch := omega) only [xk_none, xk_inl, xk_inr, xk_ite, xri_v, xrl_v, xrv_v, xb_z0, xb_z1, xb_b2, if_true, if_false, ite_true, ite_false, iZ_lit, iZ_m1, iZ_m99, iZ_m8, iZ_add, iZ_sub, iZ_mul, iZ_neg, nz0, nzi, iZ_lt, iZ_le, iZ_inj, b2_z, b2_o, ite_bPz, ite_bPo, xb_bP, iZ_xin, if_pos, ite_self, ↓reduceIte, Int.reduceAdd, Int.reduceSub, Int.reduceMul, Int.reduceNeg, Int.reduceLT, Int.reduceLE, if_neg, iZ_clampN, ho]
      rw [xfix_unf, sX1_fillPartings_24]
      simp (disch := omega) only [xk_none, xk_inl, xk_inr, xk_ite, xri_v, xrl_v, xrv_v, xb_z0, xb_z1, xb_b2, if_true, if_false, ite_true, ite_false, iZ_lit, iZ_m1, iZ_m99, iZ_m8, iZ_add, iZ_sub, iZ_mul, iZ_neg, nz0, nzi, iZ_lt, iZ_le, iZ_inj, b2_z, b2_o, ite_bPz, ite_bPo, xb_bP, iZ_xin, if_pos, ite_self, ↓reduceIte, Int.reduceAdd, Int.reduceSub, Int.reduceMul, Int.reduceNeg, Int.reduceLT, Int.reduceLE, if_neg, iZ_clampN, hx, hlo]
    · rw [bP_f b1] at ho
      rw [if_neg b1] at hx ⊢
      show xfix gX1_fillPartings (0, [some (.inr (.inr (1, 0))), some (.inl (iZ (heap))), none, none, none], [], M) = _; rw [xfix_unf, sX1_fillPartings_0]
      simp (disch := omega) only [xk_none, xk_inl, xk_inr, xk_ite, xri_v, xrl_v, xrv_v, xb_z0, xb_z1, xb_b2, if_true, if_false, ite_true, ite_false, iZ_lit, iZ_m1, iZ_m99, iZ_m8, iZ_add, iZ_sub, iZ_mul, iZ_neg, nz0, nzi, iZ_lt, iZ_le, iZ_inj, b2_z, b2_o, ite_bPz, ite_bPo, xb_bP, iZ_xin, if_pos, ite_self, ↓reduceIte, Int.reduceAdd, Int.reduceSub, Int.reduceMul, Int.reduceNeg, Int.reduceLT, Int.reduceLE, if_neg, iZ_clampN, ho]
      rw [xfix_unf, sX1_fillPartings_24]
      simp (disch := omega) only [xk_none, xk_inl, xk_inr, xk_ite, xri_v, xrl_v, xrv_v, xb_z0, xb_z1, xb_b2, if_true, if_false, ite_true, ite_false, iZ_lit, iZ_m1, iZ_m99, iZ_m8, iZ_add, iZ_sub, iZ_mul, iZ_neg, nz0, nzi, iZ_lt, iZ_le, iZ_inj, b2_z, b2_o, ite_bPz, ite_bPo, xb_bP, iZ_xin, if_pos, ite_self, ↓reduceIte, Int.reduceAdd, Int.reduceSub, Int.reduceMul, Int.reduceNeg, Int.reduceLT, Int.reduceLE, if_neg, iZ_clampN, hx, hlo]
  obtain ⟨K0, t1, eK⟩ := t0
  have s0 : xSm (fun r j => j = heap ∧ (r = (24, 0) ∨ r = (25, 0))) M K0 := by rw [eK]; exact (xSm.rf.pI ⟨rfl, .inl rfl⟩).pI ⟨rfl, .inr rfl⟩
  obtain ⟨M', h', u1, u2, u3, u4⟩ := xfor_sub (σ := xM) (sg := gX1_fillPartings) (st := fun l h K => (38, [some (.inr (.inr (1, 0))), some (.inl (iZ (heap))), some (.inl (iZ ((2 ^ p : Nat)))), some (.inl (iZ (h))), some (.inl (iZ (l)))], [], K)) (I := fun j K => xSm (fun r j => j = heap ∧ (r = (24, 0) ∨ r = (25, 0))) M K ∧ xI K (24, 0) heap = iZ (sm (fun k => if k.testBit p = true then f k else 0) j) ∧ xI K (25, 0) heap = iZ (mnF c v (if bc heap = 1 then 0 else -1) j)) (heap := heap) h512 (by omega)
    (fun j K hj hn2 hI => by
      obtain ⟨i1, i2, i3⟩ := hI
      refine ⟨i1, ?_, ?_⟩
      · show _ = iZ (sm (fun k => if k.testBit p = true then f k else 0) j + (if j.testBit p = true then f j else 0))
        have : f j = 0 := by rw [ef]; exact ind_f fun z => hn2 z.2.1
        rw [this, ite_self, Int.add_zero]; exact i2
      · show _ = iZ (@ite _ (c j ∧ v j ≠ -1 ∧ _) (Classical.propDecidable _) (v j) _)
        rw [if_neg fun z => by
          have := z.1
          rw [ec] at this
          exact hn2 this.2.2.1]
        exact i3)
    (fun l h j K hl hhj hj hs hnx hI => by
      obtain ⟨i1, i2, i3⟩ := hI
      have j1 : 1 ≤ j := by omega
      obtain ⟨r1, r2, r3⟩ := rs j j1 hj hs
      have hnh := x_nextHalf (M := K) (heap := heap) (half := h) (by omega)
      rw [hnx] at hnh
      have hL : ((l + 1 : Nat) : Int) + -1 = (l : Int) := by omega
      have eS : sm (fun k => if k.testBit p = true then f k else 0) (j + 1) = sm (fun k => if k.testBit p = true then f k else 0) j + (if j.testBit p = true then f j else 0) := rfl
      have eM : mnF c v (if bc heap = 1 then 0 else -1) (j + 1) = @ite _ (c j ∧ v j ≠ -1 ∧ (mnF c v (if bc heap = 1 then 0 else -1) j = -1 ∨ v j < mnF c v (if bc heap = 1 then 0 else -1) j)) (Classical.propDecidable _) (v j) (mnF c v (if bc heap = 1 then 0 else -1) j) := rfl
      have hfirst : iZ (j : Int) &&& iZ ((2 ^ p : Nat) : Int) = iZ ((j &&& 2 ^ p : Nat) : Int) := iZ_and j (2 ^ p)
      have hfz : j &&& 2 ^ p ≠ 0 ↔ j.testBit p = true := by
        rw [and_nz]
        constructor
        · rintro ⟨i, w1, w2⟩
          rw [Nat.testBit_two_pow, decide_eq_true_eq] at w2
          rw [w2]; exact w1
        · exact fun w => ⟨p, w, by rw [Nat.testBit_two_pow, decide_eq_true_eq]⟩
      have hfl : j &&& 2 ^ p < 512 := Nat.lt_of_le_of_lt Nat.and_le_left (by omega)
      have hJK : cJt K A := hJ.sm i1 (by simp) (by simp) (by simp)
      have hWK : cWy K 0 (aP A) (barS A) := hW.sm i1 (by simp)
      have hgd := x_goodWays (M := K) (k := 0) hA hJK hWK hB h512 (Nat.lt_trans hj hh) (ndn_and.mpr hs)
      have gnz := gwS_prt (A := A) (half := j) hP (barS_sym A) hh (ndn_and.mpr hs)
      have gl : gwS A (barS A) heap j < 64 := msk_lt _ 6
      have mbj := mb j (by omega)
      by_cases a1 : j.testBit p = true
      · by_cases a2 : prt A (barS A) heap j
        · have cj : c j := by rw [ec]; exact ⟨j1, hj, hs, a2, a1⟩
          have fj : f j = 1 := by rw [ef]; exact ind_t ⟨j1, hs, a2⟩
          have vj : v j = rnd2 (rndA A j) (rndA A (ndn heap j)) := by rw [ev]; exact if_pos ⟨j1, hj, hs⟩
          obtain ⟨K1, eK1⟩ : ∃ K1, K1 = xpI K (24, 0) heap (iZ (sm (fun k => if k.testBit p = true then f k else 0) j + 1)) := ⟨_, rfl⟩
          have sK1 : xSm (fun r j => j = heap ∧ (r = (24, 0) ∨ r = (25, 0))) M K1 := by rw [eK1]; exact i1.pI ⟨rfl, .inl rfl⟩
          have r25 : ∀ k, 1 ≤ k → k < heap → xI K1 (25, 0) k = iZ (rndA A k) := fun k k1 k2 => by rw [(sK1 (25, 0) k (fun z => by omega)).1]; exact hR k k1 k2
          have q1 := r25 j j1 hj
          have q2 := r25 _ r2 r3
          have q3 : xI K1 (25, 0) heap = iZ (mnF c v (if bc heap = 1 then 0 else -1) j) := by rw [eK1, pR_nr (by omega)]; exact i3
          have b1 := bR j j1
          have b2 := bR _ r2
          have ht := x_tryRounds (M := K1) (heap := heap) (a := rndA A j) (b := rndA A (ndn heap j)) (r := mnF c v (if bc heap = 1 then 0 else -1) j) h512 (by omega) (by omega) (by omega) q3
          refine ⟨(if rnd2 (rndA A j) (rndA A (ndn heap j)) ≠ -1 ∧ (mnF c v (if bc heap = 1 then 0 else -1) j = -1 ∨ rnd2 (rndA A j) (rndA A (ndn heap j)) < mnF c v (if bc heap = 1 then 0 else -1) j) then xpI K1 (25, 0) heap (iZ (rnd2 (rndA A j) (rndA A (ndn heap j)))) else K1), ?_, ?_, ?_, ?_⟩
          · have nz := gnz.mpr a2
            have nf := hfz.mpr a1
            have hnd' : iZ (heap : Int) &&& (iZ (j : Int) ^^^ iZ (-1)) = iZ ((ndn heap j : Nat) : Int) := iZ_ndn heap j
            generalize (if rnd2 (rndA A j) (rndA A (ndn heap j)) ≠ -1 ∧ (mnF c v (if bc heap = 1 then 0 else -1) j = -1 ∨ rnd2 (rndA A j) (rndA A (ndn heap j)) < mnF c v (if bc heap = 1 then 0 else -1) j) then xpI K1 (25, 0) heap (iZ (rnd2 (rndA A j) (rndA A (ndn heap j)))) else K1) = KK at *
            generalize sm (fun k => if k.testBit p = true then f k else 0) j = ss at *
            generalize gwS A (barS A) heap j = gm at *
            generalize (j &&& 2 ^ p : Nat) = jp at *
            generalize rndA A j = ra at *
            generalize rndA A (ndn heap j) = rb at *
            generalize ndn heap j = rs' at *
            rw [xfix_unf, sX1_fillPartings_38]
            simp (disch := omega) only [xk_none, xk_inl, xk_inr, xk_ite, xri_v, xrl_v, xrv_v, xb_z0, xb_z1, xb_b2, if_true, if_false, ite_true, ite_false, iZ_lit, iZ_m1, iZ_m99, iZ_m8, iZ_add, iZ_sub, iZ_mul, iZ_neg, nz0, nzi, iZ_lt, iZ_le, iZ_inj, b2_z, b2_o, ite_bPz, ite_bPo, xb_bP, iZ_xin, if_pos, ite_self, ↓reduceIte, Int.reduceAdd, Int.reduceSub, Int.reduceMul, Int.reduceNeg, Int.reduceLT, Int.reduceLE, if_neg, ↓xri_some hnh, hfirst, ↓xri_some hgd, iZ_clampN, i2, hnd', ← eK1, q1, q2, ht, hL]
          · by_cases z : rnd2 (rndA A j) (rndA A (ndn heap j)) ≠ -1 ∧ (mnF c v (if bc heap = 1 then 0 else -1) j = -1 ∨ rnd2 (rndA A j) (rndA A (ndn heap j)) < mnF c v (if bc heap = 1 then 0 else -1) j)
            · rw [if_pos z]; exact sK1.pI ⟨rfl, .inr rfl⟩
            · rw [if_neg z]; exact sK1
          · have e24 : xI K1 (24, 0) heap = iZ (sm (fun k => if k.testBit p = true then f k else 0) (j + 1)) := by rw [eK1, pR_eq, eS, if_pos a1, fj]
            by_cases z : rnd2 (rndA A j) (rndA A (ndn heap j)) ≠ -1 ∧ (mnF c v (if bc heap = 1 then 0 else -1) j = -1 ∨ rnd2 (rndA A j) (rndA A (ndn heap j)) < mnF c v (if bc heap = 1 then 0 else -1) j)
            · rw [if_pos z, pR_nr (by omega)]; exact e24
            · rw [if_neg z]; exact e24
          · rw [eM, vj]
            by_cases z : rnd2 (rndA A j) (rndA A (ndn heap j)) ≠ -1 ∧ (mnF c v (if bc heap = 1 then 0 else -1) j = -1 ∨ rnd2 (rndA A j) (rndA A (ndn heap j)) < mnF c v (if bc heap = 1 then 0 else -1) j)
            · rw [if_pos z, if_pos ⟨cj, z⟩, pR_eq]
            · rw [if_neg z, if_neg fun q => z q.2]; exact q3
        · refine ⟨K, ?_, i1, ?_, ?_⟩
          · have nz : ¬ (gwS A (barS A) heap j ≠ 0) := fun z => a2 (gnz.mp z)
            have nf := hfz.mpr a1
            generalize gwS A (barS A) heap j = gm at *
            generalize (j &&& 2 ^ p : Nat) = jp at *
            rw [xfix_unf, sX1_fillPartings_38]
            simp (disch := omega) only [xk_none, xk_inl, xk_inr, xk_ite, xri_v, xrl_v, xrv_v, xb_z0, xb_z1, xb_b2, if_true, if_false, ite_true, ite_false, iZ_lit, iZ_m1, iZ_m99, iZ_m8, iZ_add, iZ_sub, iZ_mul, iZ_neg, nz0, nzi, iZ_lt, iZ_le, iZ_inj, b2_z, b2_o, ite_bPz, ite_bPo, xb_bP, iZ_xin, if_pos, ite_self, ↓reduceIte, Int.reduceAdd, Int.reduceSub, Int.reduceMul, Int.reduceNeg, Int.reduceLT, Int.reduceLE, if_neg, ↓xri_some hnh, hfirst, ↓xri_some hgd, hL]
          · have : f j = 0 := by rw [ef]; exact ind_f fun z => a2 z.2.2
            rw [eS, this, ite_self, Int.add_zero]; exact i2
          · rw [eM, if_neg fun z => by
              have := z.1
              rw [ec] at this
              exact a2 this.2.2.2.1]
            exact i3
      · refine ⟨K, ?_, i1, ?_, ?_⟩
        · have nf : ¬ (j &&& 2 ^ p ≠ 0) := fun z => a1 (hfz.mp z)
          generalize (j &&& 2 ^ p : Nat) = jp at *
          rw [xfix_unf, sX1_fillPartings_38]
          simp (disch := omega) only [xk_none, xk_inl, xk_inr, xk_ite, xri_v, xrl_v, xrv_v, xb_z0, xb_z1, xb_b2, if_true, if_false, ite_true, ite_false, iZ_lit, iZ_m1, iZ_m99, iZ_m8, iZ_add, iZ_sub, iZ_mul, iZ_neg, nz0, nzi, iZ_lt, iZ_le, iZ_inj, b2_z, b2_o, ite_bPz, ite_bPo, xb_bP, iZ_xin, if_pos, ite_self, ↓reduceIte, Int.reduceAdd, Int.reduceSub, Int.reduceMul, Int.reduceNeg, Int.reduceLT, Int.reduceLE, if_neg, ↓xri_some hnh, hfirst, hL]
        · rw [eS, if_neg a1, Int.add_zero]; exact i2
        · rw [eM, if_neg fun z => by
            have := z.1
            rw [ec] at this
            exact a1 this.2.2.2.2]
          exact i3) (x := K0) ⟨s0, by
      have : sm (fun k => if k.testBit p = true then f k else 0) 1 = 0 := by
        show 0 + (if (0 : Nat).testBit p = true then f 0 else 0) = 0
        rw [Nat.zero_testBit]; rfl
      rw [this, eK, pR_nr (by omega), pR_eq], by
      have : mnF c v (if bc heap = 1 then 0 else -1) 1 = if bc heap = 1 then 0 else -1 := by
        show @ite _ (c 0 ∧ v 0 ≠ -1 ∧ _) (Classical.propDecidable _) (v 0) _ = _
        rw [if_neg fun z => by
          have := z.1
          rw [ec] at this
          omega]
        rfl
      rw [this, eK, pR_eq]⟩
  refine ⟨M', ?_, u2, by rw [← totP]; exact u3, by rw [← totR]; exact u4⟩
  refine t1.trans (u1.trans ?_)
  have zz : ((0 : Nat) : Int) = 0 := rfl
  rw [zz]
  rw [xfix_unf, sX1_fillPartings_38]
  simp (disch := omega) only [xk_none, xk_inl, xk_inr, xk_ite, xri_v, xrl_v, xrv_v, xb_z0, xb_z1, xb_b2, if_true, if_false, ite_true, ite_false, iZ_lit, iZ_m1, iZ_m99, iZ_m8, iZ_add, iZ_sub, iZ_mul, iZ_neg, nz0, nzi, iZ_lt, iZ_le, iZ_inj, b2_z, b2_o, ite_bPz, ite_bPo, xb_bP, iZ_xin, if_pos, ite_self, ↓reduceIte, Int.reduceAdd, Int.reduceSub, Int.reduceMul, Int.reduceNeg, Int.reduceLT, Int.reduceLE, if_neg]
