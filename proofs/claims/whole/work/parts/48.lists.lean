/-! the reference: its lists of cells -/
theorem sm_at (x : Int) : ∀ n : Nat, sm (fun k => if x = (k : Int) then 1 else 0) n = if 0 ≤ x ∧ x < n then 1 else 0
  | 0 => by
    rw [if_neg (by omega)]
    rfl
  | n + 1 => by
    show sm (fun k => if x = (k : Int) then 1 else 0) n + (if x = (n : Int) then 1 else 0) = _
    rw [sm_at x n, nS]
    (repeat' split) <;> omega
/-- how many of the first i cells belong to the first q parts -/
noncomputable def bgI (A : dA) (q i : Nat) : Int := sm (fun k => mnyA A k i) q
theorem bgI_S (A : dA) (i : Nat) : ∀ q, bgI A q (i + 1) = bgI A q i + sm (fun k => if aC A i = (k : Int) then 1 else 0) q
  | 0 => rfl
  | q + 1 => by
    have ih := bgI_S A i q
    unfold bgI at ih ⊢
    show sm (fun k => mnyA A k (i + 1)) q + (mnyA A q i + (if aC A i = (q : Int) then 1 else 0)) = sm (fun k => mnyA A k i) q + mnyA A q i + (sm (fun k => if aC A i = (k : Int) then 1 else 0) q + (if aC A i = (q : Int) then 1 else 0))
    omega
theorem bgI_b (A : dA) (q : Nat) : ∀ i, i ≤ 512 → 0 ≤ bgI A q i ∧ bgI A q i ≤ i
  | 0, _ => by
    have : ∀ q, bgI A q 0 = 0 := fun q => by
      induction q with
      | zero => rfl
      | succ q ih =>
        show bgI A q 0 + mnyA A q 0 = 0
        rw [ih]
        rfl
    rw [this]
    omega
  | i + 1, h => by
    have ih := bgI_b A q i (by omega)
    rw [bgI_S, sm_at, nS]
    split <;> omega
noncomputable def bgn (A : dA) (q : Nat) : Nat := (bgI A q 512).toNat
theorem bgn_Z (A : dA) (q : Nat) : (bgn A q : Int) = bgI A q 512 := by
  have := bgI_b A q 512 (by omega)
  unfold bgn
  omega
theorem bgn_le (A : dA) (q : Nat) : bgn A q ≤ 512 := by
  have := bgI_b A q 512 (by omega)
  unfold bgn
  omega
theorem bgn_S (A : dA) (q : Nat) : (bgn A (q + 1) : Int) = bgn A q + mnyA A q 512 := by rw [bgn_Z, bgn_Z]; rfl
theorem mny_mono (A : dA) (p : Int) : ∀ {i j : Nat}, i ≤ j → mnyA A p i ≤ mnyA A p j
  | i, 0, h => by have : i = 0 := by omega
                  rw [this]; omega
  | i, j + 1, h => by
    by_cases e : i = j + 1
    · rw [e]; omega
    · have := mny_mono A p (i := i) (j := j) (by omega)
      show mnyA A p i ≤ mnyA A p j + (if aC A j = p then 1 else 0)
      split <;> omega
/-- the lists are those of the thing -/
def mLs (M : xM) (A : dA) : Prop := (∀ q, q ≤ aP A → xI M (176, 0) q = iZ (bgn A q)) ∧ (∀ q, q < aP A → ∀ i, bgn A q ≤ i → i < bgn A (q + 1) → ∃ c, c < 512 ∧ xI M (175, 0) i = iZ (c : Nat) ∧ aC A c = q) ∧ (∀ q, q < aP A → ∀ c, c < 512 → aC A c = q → ∃ i, bgn A q ≤ i ∧ i < bgn A (q + 1) ∧ xI M (175, 0) i = iZ (c : Nat)) ∧ ∀ q, q < aP A → ∀ a, a < 3 → xI M (177, 0) (6 * q + 2 * a) = iZ (loA A (2 ^ q) a) ∧ xI M (177, 0) (6 * q + 2 * a + 1) = iZ (hiA A (2 ^ q) a)
theorem mLs.sm {M M' : xM} {A : dA} {P : xR → Nat → Prop} (h : mLs M A) (hs : xSm P M M') (hp : ∀ r, r ∈ ([(175, 0), (176, 0), (177, 0)] : List xR) → ∀ j, ¬ P r j) : mLs M' A := by
  have h5 := fun j => (hs _ j (hp (175, 0) (by decide) j)).1
  have h6 := fun j => (hs _ j (hp (176, 0) (by decide) j)).1
  have h7 := fun j => (hs _ j (hp (177, 0) (by decide) j)).1
  obtain ⟨a, b, c, d⟩ := h
  refine ⟨fun q hq => by rw [h6]; exact a q hq, fun q hq i h1 h2 => ?_, fun q hq i h1 h2 => ?_, fun q hq x hx => by rw [h7, h7]; exact d q hq x hx⟩
  · rw [h5]; exact b q hq i h1 h2
  · obtain ⟨j, j1, j2, j3⟩ := c q hq i h1 h2
    exact ⟨j, j1, j2, by rw [h5]; exact j3⟩
abbrev lR (r : xR) : Prop := r = (175, 0) ∨ r = (176, 0) ∨ r = (177, 0)
theorem ls_21 {A : dA} {M : xM} (h : mA M A) {q n : Nat} (hq : q < aP A) : ∃ M', xfix gX12_listsCells (21, [some (.inr (.inr (12, 0))), some (.inl (iZ (n))), some (.inl (iZ (q))), some (.inl (iZ ((0 : Nat))))], [], M) = xfix gX12_listsCells (78, [some (.inr (.inr (12, 0))), some (.inl (iZ (n))), some (.inl (iZ (q))), some (.inl (iZ ((0 : Nat))))], [], M') ∧ xSm (fun r j => r = (177, 0) ∧ 6 * q ≤ j) M M' ∧ ∀ a, a < 3 → xI M' (177, 0) (6 * q + 2 * a) = iZ (loA A (2 ^ q) a) ∧ xI M' (177, 0) (6 * q + 2 * a + 1) = iZ (hiA A (2 ^ q) a) := by
  have hP := h.ok.P
  have h2q : 2 ^ q < 512 := Nat.pow_lt_pow_right (n := 9) (by decide) (by omega)
  obtain ⟨M2, b1, b2, b3⟩ := xfor_M (sg := gX12_listsCells) (st := fun a M => (21, [some (.inr (.inr (12, 0))), some (.inl (iZ (n))), some (.inl (iZ (q))), some (.inl (iZ (a)))], [], M)) (I := fun k N => xSm (fun r j => r = (177, 0) ∧ 6 * q ≤ j) M N ∧ ∀ a, a < k → xI N (177, 0) (6 * q + 2 * a) = iZ (loA A (2 ^ q) a) ∧ xI N (177, 0) (6 * q + 2 * a + 1) = iZ (hiA A (2 ^ q) a)) (n := 3) (fun a N ha hN => by
    obtain ⟨n1, n2⟩ := hN
    have hA := h.sm n1 (by simp) (by simp) (by intro r hr j; simp only [List.mem_cons, List.mem_nil_iff, or_false] at hr; rcases hr with e | e | e | e | e | e | e | e <;> subst e <;> simp)
    have n3 := n1.pI (r := (177, 0)) (j := 6 * q + 2 * a) (v := iZ (loA A (2 ^ q) a)) ⟨rfl, by omega⟩
    have hA2 := h.sm n3 (by simp) (by simp) (by intro r hr j; simp only [List.mem_cons, List.mem_nil_iff, or_false] at hr; rcases hr with e | e | e | e | e | e | e | e <;> subst e <;> simp)
    have ecl : Int32.toNatClampNeg (iZ (6 * (q : Int) + 2 * (a : Int))) = 6 * q + 2 * a := by rw [iZ_clamp (by omega)]; omega
    have ecl2 : Int32.toNatClampNeg (iZ (6 * (q : Int) + 2 * (a : Int) + 1)) = 6 * q + 2 * a + 1 := by rw [iZ_clamp (by omega)]; omega
    refine ⟨xpI (xpI N (177, 0) (6 * q + 2 * a) (iZ (loA A (2 ^ q) a))) (177, 0) (6 * q + 2 * a + 1) (iZ (hiA A (2 ^ q) a)), ?_, n3.pI ⟨rfl, by omega⟩, fun x hx => ?_⟩
    · rw [xfix_unf, sX12_listsCells_21]
      simp (disch := omega) only [xk_none, xk_inl, xk_inr, xk_ite, xri_v, xrl_v, xrv_v, xb_z0, xb_z1, xb_b2, if_true, if_false, ite_true, ite_false, iZ_lit, iZ_m1, iZ_m99, iZ_m8, iZ_add, iZ_sub, iZ_mul, iZ_neg, nz0, nzi, iZ_lt, iZ_le, iZ_inj, b2_z, b2_o, ite_bPz, ite_bPo, xb_bP, iZ_xin, if_pos, ite_self, ↓reduceIte, Int.reduceAdd, Int.reduceSub, Int.reduceMul, Int.reduceNeg, Int.reduceLT, Int.reduceLE, if_neg, nS, iZ_clampN, iZ_bit, iZ_one, iZ_and, iZ_or, iZ_ndn, m_lowest hA h2q ha, ecl, ecl2, m_highest hA2 h2q ha]
    · by_cases e : x = a
      · subst e
        refine ⟨?_, ?_⟩
        · rw [xI_pI, if_neg (fun z => by omega), xI_pI, if_pos ⟨rfl, rfl⟩]
        · rw [xI_pI, if_pos ⟨rfl, rfl⟩]
      · have := n2 x (by omega)
        refine ⟨?_, ?_⟩
        · rw [xI_pI, if_neg (fun z => by omega), xI_pI, if_neg (fun z => by omega)]; exact this.1
        · rw [xI_pI, if_neg (fun z => by omega), xI_pI, if_neg (fun z => by omega)]; exact this.2) (a := 0) (M := M) (by omega) ⟨xSm.rf, fun a ha => by omega⟩
  refine ⟨M2, b1.trans ?_, b2, b3⟩
  rw [xfix_unf, sX12_listsCells_21]
  simp (disch := omega) only [xk_none, xk_inl, xk_inr, xk_ite, xri_v, xrl_v, xrv_v, xb_z0, xb_z1, xb_b2, if_true, if_false, ite_true, ite_false, iZ_lit, iZ_m1, iZ_m99, iZ_m8, iZ_add, iZ_sub, iZ_mul, iZ_neg, nz0, nzi, iZ_lt, iZ_le, iZ_inj, b2_z, b2_o, ite_bPz, ite_bPo, xb_bP, iZ_xin, if_pos, ite_self, ↓reduceIte, Int.reduceAdd, Int.reduceSub, Int.reduceMul, Int.reduceNeg, Int.reduceLT, Int.reduceLE, if_neg]
  rfl
theorem ls_78 {A : dA} {M : xM} (h : mA M A) {q : Nat} (hq : q < aP A) : ∃ M', xfix gX12_listsCells (78, [some (.inr (.inr (12, 0))), some (.inl (iZ ((bgn A q)))), some (.inl (iZ (q))), some (.inl (iZ ((0 : Nat))))], [], M) = xfix gX12_listsCells (4, [some (.inr (.inr (12, 0))), some (.inl (iZ ((bgn A (q + 1))))), some (.inl (iZ (((q : Int) + 1)))), none], [], M') ∧ xSm (fun r j => r = (175, 0) ∧ bgn A q ≤ j) M M' ∧ (∀ i, bgn A q ≤ i → i < bgn A (q + 1) → ∃ c, c < 512 ∧ xI M' (175, 0) i = iZ (c : Nat) ∧ aC A c = q) ∧ (∀ c, c < 512 → aC A c = q → ∃ i, bgn A q ≤ i ∧ i < bgn A (q + 1) ∧ xI M' (175, 0) i = iZ (c : Nat)) := by
  have hP := h.ok.P
  have hb := bgn_S A q
  have hb2 := bgn_le A (q + 1)
  obtain ⟨M2, b1, b2, b3, b4⟩ := xfor_M (sg := gX12_listsCells) (st := fun i M => (78, [some (.inr (.inr (12, 0))), some (.inl (iZ (((bgn A q : Int) + mnyA A q i)))), some (.inl (iZ (q))), some (.inl (iZ (i)))], [], M)) (I := fun k N => xSm (fun r j => r = (175, 0) ∧ bgn A q ≤ j) M N ∧ (∀ i : Nat, bgn A q ≤ i → (i : Int) < bgn A q + mnyA A q k → ∃ c, c < 512 ∧ xI N (175, 0) i = iZ (c : Nat) ∧ aC A c = q) ∧ (∀ c, c < k → aC A c = q → ∃ i : Nat, bgn A q ≤ i ∧ (i : Int) < bgn A q + mnyA A q k ∧ xI N (175, 0) i = iZ (c : Nat))) (n := 512) (fun k N hk hN => by
    obtain ⟨n1, n2, n4⟩ := hN
    have hA := h.sm n1 (by simp) (by simp) (by intro r hr j; simp only [List.mem_cons, List.mem_nil_iff, or_false] at hr; rcases hr with e | e | e | e | e | e | e | e <;> subst e <;> simp)
    have hC := h.ok.C hk
    have hm := mnyA_b A q (i := k) (by omega)
    have hmS : mnyA A q (k + 1) = mnyA A q k + (if aC A k = q then 1 else 0) := rfl
    have hmm := mny_mono A q (i := k + 1) (j := 512) (by omega)
    by_cases e : aC A k = q
    · rw [if_pos e] at hmS
      obtain ⟨j, hj⟩ : ∃ j : Nat, (bgn A q : Int) + mnyA A q k = j := ⟨((bgn A q : Int) + mnyA A q k).toNat, by omega⟩
      rw [hmS]
      refine ⟨xpI N (175, 0) j (iZ k), ?_, n1.pI ⟨rfl, by omega⟩, fun i i1 i2 => ?_, fun c c1 c2 => ?_⟩
      · rw [hj, show (bgn A q : Int) + (mnyA A q k + 1) = (j : Int) + 1 by omega]
        rw [xfix_unf, sX12_listsCells_78]
        simp (disch := omega) only [xk_none, xk_inl, xk_inr, xk_ite, xri_v, xrl_v, xrv_v, xb_z0, xb_z1, xb_b2, if_true, if_false, ite_true, ite_false, iZ_lit, iZ_m1, iZ_m99, iZ_m8, iZ_add, iZ_sub, iZ_mul, iZ_neg, nz0, nzi, iZ_lt, iZ_le, iZ_inj, b2_z, b2_o, ite_bPz, ite_bPo, xb_bP, iZ_xin, if_pos, ite_self, ↓reduceIte, Int.reduceAdd, Int.reduceSub, Int.reduceMul, Int.reduceNeg, Int.reduceLT, Int.reduceLE, if_neg, nS, iZ_clampN, iZ_bit, iZ_one, iZ_and, iZ_or, iZ_ndn, hA.C hk, e]
      · by_cases e2 : i = j
        · exact ⟨k, hk, by rw [xI_pI, if_pos ⟨rfl, e2⟩], e⟩
        · rw [xI_pI, if_neg (fun z => e2 z.2)]
          exact n2 i i1 (by omega)
      · by_cases e2 : c = k
        · subst e2
          exact ⟨j, by omega, by omega, by rw [xI_pI, if_pos ⟨rfl, rfl⟩]⟩
        · obtain ⟨i, i1, i2, i3⟩ := n4 c (by omega) c2
          exact ⟨i, i1, by omega, by rw [xI_pI, if_neg (fun z => by omega)]; exact i3⟩
    · rw [if_neg e] at hmS
      rw [hmS, Int.add_zero]
      refine ⟨N, ?_, n1, n2, fun c c1 c2 => n4 c (by
        by_cases e2 : c = k
        · subst e2; exact absurd c2 e
        · omega) c2⟩
      rw [xfix_unf, sX12_listsCells_78]
      simp (disch := omega) only [xk_none, xk_inl, xk_inr, xk_ite, xri_v, xrl_v, xrv_v, xb_z0, xb_z1, xb_b2, if_true, if_false, ite_true, ite_false, iZ_lit, iZ_m1, iZ_m99, iZ_m8, iZ_add, iZ_sub, iZ_mul, iZ_neg, nz0, nzi, iZ_lt, iZ_le, iZ_inj, b2_z, b2_o, ite_bPz, ite_bPo, xb_bP, iZ_xin, if_pos, ite_self, ↓reduceIte, Int.reduceAdd, Int.reduceSub, Int.reduceMul, Int.reduceNeg, Int.reduceLT, Int.reduceLE, if_neg, nS, iZ_clampN, iZ_bit, iZ_one, iZ_and, iZ_or, iZ_ndn, hA.C hk]) (a := 0) (M := M) (by omega) ⟨xSm.rf, fun i i1 i2 => by
        have : mnyA A q 0 = 0 := rfl
        omega, fun c hc => by omega⟩
  have e0 : mnyA A q 0 = 0 := rfl
  rw [e0, Int.add_zero, ← hb] at b1
  refine ⟨M2, b1.trans ?_, b2, fun i i1 i2 => b3 i i1 (by omega), fun c c1 c2 => ?_⟩
  · rw [xfix_unf, sX12_listsCells_78]
    have e512 : ((512 : Nat) : Int) = 512 := rfl
    simp (disch := omega) only [xk_none, xk_inl, xk_inr, xk_ite, xri_v, xrl_v, xrv_v, xb_z0, xb_z1, xb_b2, if_true, if_false, ite_true, ite_false, iZ_lit, iZ_m1, iZ_m99, iZ_m8, iZ_add, iZ_sub, iZ_mul, iZ_neg, nz0, nzi, iZ_lt, iZ_le, iZ_inj, b2_z, b2_o, ite_bPz, ite_bPo, xb_bP, iZ_xin, if_pos, ite_self, ↓reduceIte, Int.reduceAdd, Int.reduceSub, Int.reduceMul, Int.reduceNeg, Int.reduceLT, Int.reduceLE, if_neg, e512]
  · obtain ⟨i, i1, i2, i3⟩ := b4 c c1 c2
    exact ⟨i, i1, by omega, i3⟩
theorem m_listsCells {A : dA} {M : xM} (h : mA M A) : ∃ M', fX12_listsCells [.inr (.inr (12, 0))] M = some (none, M') ∧ xSame lR M M' ∧ mLs M' A := by
  have hP := h.ok.P
  obtain ⟨M2, b1, b2, b3, b4, b5, b6⟩ := xfor_M (sg := gX12_listsCells) (st := fun q M => (4, [some (.inr (.inr (12, 0))), some (.inl (iZ ((bgn A q)))), some (.inl (iZ (q))), none], [], M)) (I := fun k N => xSame lR M N ∧ (∀ q, q < k → xI N (176, 0) q = iZ (bgn A q)) ∧ (∀ q, q < k → ∀ i, bgn A q ≤ i → i < bgn A (q + 1) → ∃ c, c < 512 ∧ xI N (175, 0) i = iZ (c : Nat) ∧ aC A c = q) ∧ (∀ q, q < k → ∀ c, c < 512 → aC A c = q → ∃ i, bgn A q ≤ i ∧ i < bgn A (q + 1) ∧ xI N (175, 0) i = iZ (c : Nat)) ∧ ∀ q, q < k → ∀ a, a < 3 → xI N (177, 0) (6 * q + 2 * a) = iZ (loA A (2 ^ q) a) ∧ xI N (177, 0) (6 * q + 2 * a + 1) = iZ (hiA A (2 ^ q) a)) (n := aP A) (fun q N hq hN => by
    obtain ⟨n1, n2, n3, n4, n5⟩ := hN
    have hA := h.fr n1 (by decide)
    have s1 : xSame lR N (xpI N (176, 0) q (iZ (bgn A q))) := xSame.rf.pI (.inr (.inl rfl))
    obtain ⟨N2, g1, g2, g3⟩ := ls_21 (hA.fr s1 (by decide)) (n := bgn A q) hq
    have s2 : xSame lR N N2 := s1.tr (g2.S fun r j z => .inr (.inr z.1))
    obtain ⟨N3, k1, k2, k3, k4⟩ := ls_78 (hA.fr s2 (by decide)) hq
    have s3 : xSame lR N N3 := s2.tr (k2.S fun r j z => .inl z.1)
    have r6 : ∀ j, xI N3 (176, 0) j = xI (xpI N (176, 0) q (iZ (bgn A q))) (176, 0) j := fun j => by rw [(k2 (176, 0) j (by simp)).1, (g2 (176, 0) j (by simp)).1]
    have r5 : ∀ j, j < bgn A q → xI N3 (175, 0) j = xI N (175, 0) j := fun j hj => by rw [(k2 (175, 0) j (fun z => by omega)).1, (g2 (175, 0) j (by simp)).1, xI_pI_ne (by decide)]
    have r7 : ∀ j, xI N3 (177, 0) j = xI N2 (177, 0) j := fun j => by rw [(k2 (177, 0) j (by simp)).1]
    have mono : ∀ q', q' < q → bgn A (q' + 1) ≤ bgn A q := fun q' hq' => by
      have key : ∀ d, bgn A (q' + 1) ≤ bgn A (q' + 1 + d) := fun d => by
        induction d with
        | zero => exact Nat.le_refl _
        | succ d ih =>
          have e1 := bgn_S A (q' + 1 + d)
          have e2 := mnyA_b A ((q' + 1 + d : Nat) : Int) (i := 512) (by omega)
          rw [show q' + 1 + (d + 1) = q' + 1 + d + 1 from rfl]
          omega
      have := key (q - (q' + 1))
      rwa [show q' + 1 + (q - (q' + 1)) = q by omega] at this
    refine ⟨N3, ?_, n1.tr s3, fun q' hq' => ?_, fun q' hq' => ?_, fun q' hq' => ?_, fun q' hq' => ?_⟩
    · rw [nS, ← k1, ← g1]
      rw [xfix_unf, sX12_listsCells_4]
      simp (disch := omega) only [xk_none, xk_inl, xk_inr, xk_ite, xri_v, xrl_v, xrv_v, xb_z0, xb_z1, xb_b2, if_true, if_false, ite_true, ite_false, iZ_lit, iZ_m1, iZ_m99, iZ_m8, iZ_add, iZ_sub, iZ_mul, iZ_neg, nz0, nzi, iZ_lt, iZ_le, iZ_inj, b2_z, b2_o, ite_bPz, ite_bPo, xb_bP, iZ_xin, if_pos, ite_self, ↓reduceIte, Int.reduceAdd, Int.reduceSub, Int.reduceMul, Int.reduceNeg, Int.reduceLT, Int.reduceLE, if_neg, nS, iZ_clampN, iZ_bit, iZ_one, iZ_and, iZ_or, iZ_ndn, hA.P.1]
      rfl
    · rw [r6, xI_pI]
      by_cases e : q' = q
      · rw [if_pos ⟨rfl, e⟩, e]
      · rw [if_neg (fun z => e z.2)]; exact n2 q' (by omega)
    · by_cases e : q' = q
      · subst e; exact k3
      · intro i i1 i2
        have := mono q' (by omega)
        rw [r5 i (by omega)]
        exact n3 q' (by omega) i i1 i2
    · by_cases e : q' = q
      · subst e; exact k4
      · intro c c1 c2
        obtain ⟨i, i1, i2, i3⟩ := n4 q' (by omega) c c1 c2
        have := mono q' (by omega)
        exact ⟨i, i1, i2, by rw [r5 i (by omega)]; exact i3⟩
    · intro a ha
      rw [r7, r7]
      by_cases e : q' = q
      · subst e; exact g3 a ha
      · rw [(g2 (177, 0) (6 * q' + 2 * a) (fun z => by omega)).1, (g2 (177, 0) (6 * q' + 2 * a + 1) (fun z => by omega)).1, xI_pI_ne (by decide), xI_pI_ne (by decide)]
        exact n5 q' (by omega) a ha) (a := 0) (M := M) (by omega) ⟨xSame.rf, fun q hq => by omega, fun q hq => by omega, fun q hq => by omega, fun q hq => by omega⟩
  have hA := h.fr b2 (by decide)
  have s9 : xSame lR M2 (xpI M2 (176, 0) (aP A) (iZ (bgn A (aP A)))) := xSame.rf.pI (.inr (.inl rfl))
  refine ⟨xpI M2 (176, 0) (aP A) (iZ (bgn A (aP A))), ?_, b2.tr s9, fun q hq => ?_, fun q hq => ?_, fun q hq => ?_, fun q hq => ?_⟩
  · show xfix gX12_listsCells (0, [some (.inr (.inr (12, 0))), none, none, none], [], M) = _; rw [xfix_unf, sX12_listsCells_0]
    simp (disch := omega) only [xk_none, xk_inl, xk_inr, xk_ite, xri_v, xrl_v, xrv_v, xb_z0, xb_z1, xb_b2, if_true, if_false, ite_true, ite_false, iZ_lit, iZ_m1, iZ_m99, iZ_m8, iZ_add, iZ_sub, iZ_mul, iZ_neg, nz0, nzi, iZ_lt, iZ_le, iZ_inj, b2_z, b2_o, ite_bPz, ite_bPo, xb_bP, iZ_xin, if_pos, ite_self, ↓reduceIte, Int.reduceAdd, Int.reduceSub, Int.reduceMul, Int.reduceNeg, Int.reduceLT, Int.reduceLE, if_neg]
    have e0 : bgn A 0 = 0 := rfl
    rw [e0] at b1
    refine b1.trans ?_
    rw [xfix_unf, sX12_listsCells_4]
    simp (disch := omega) only [xk_none, xk_inl, xk_inr, xk_ite, xri_v, xrl_v, xrv_v, xb_z0, xb_z1, xb_b2, if_true, if_false, ite_true, ite_false, iZ_lit, iZ_m1, iZ_m99, iZ_m8, iZ_add, iZ_sub, iZ_mul, iZ_neg, nz0, nzi, iZ_lt, iZ_le, iZ_inj, b2_z, b2_o, ite_bPz, ite_bPo, xb_bP, iZ_xin, if_pos, ite_self, ↓reduceIte, Int.reduceAdd, Int.reduceSub, Int.reduceMul, Int.reduceNeg, Int.reduceLT, Int.reduceLE, if_neg, nS, iZ_clampN, iZ_bit, iZ_one, iZ_and, iZ_or, iZ_ndn, hA.P.1]
  · rw [xI_pI]
    by_cases e : q = aP A
    · rw [if_pos ⟨rfl, e⟩, e]
    · rw [if_neg (fun z => e z.2)]; exact b3 q (by omega)
  · intro i i1 i2
    rw [xI_pI_ne (by decide)]
    exact b4 q hq i i1 i2
  · intro c c1 c2
    obtain ⟨i, i1, i2, i3⟩ := b5 q hq c c1 c2
    exact ⟨i, i1, i2, by rw [xI_pI_ne (by decide)]; exact i3⟩
  · intro a ha
    rw [xI_pI_ne (by decide), xI_pI_ne (by decide)]
    exact b6 q hq a ha
