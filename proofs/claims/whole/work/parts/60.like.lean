/-! the reference: likeness and mirrors -/
theorem rN {c d : Prop} {M : xM} (h : c ↔ d) : (some (some (.inl (iZ (ind c))), M) : Option (Option xV × xM)) = some (some (.inl (iZ (ind d))), M) := by rw [propext h]
def mir (ax a : Nat) (T v : Int) : Int := if ax = a then T - v else v
noncomputable def trn (A : dA) (p ax : Nat) : Int := if ax = 3 then 0 else loA A (2 ^ p) ax + hiA A (2 ^ p) ax
noncomputable def dff (A : dA) (p q a : Nat) : Int := loA A (2 ^ q) a - loA A (2 ^ p) a
def smC (A : dA) (p q ax c : Nat) : Prop := aC A c = p → aat A (mir ax 0 (trn A p ax) (alg c 0) + dff A p q 0) (mir ax 1 (trn A p ax) (alg c 1) + dff A p q 1) (mir ax 2 (trn A p ax) (alg c 2) + dff A p q 2) = q
def smS (A : dA) (p q ax : Nat) : Prop := mnyA A p 512 = mnyA A q 512 ∧ ∀ c, c < 512 → smC A p q ax c
theorem loA_b (A : dA) (s a : Nat) : loA A s a ≤ 99 := lst_le _ 99
theorem hiA_b (A : dA) (s a : Nat) : -1 ≤ hiA A s a ∧ hiA A s a < 8 := hst_rng _ 8
theorem trn_b (A : dA) (p ax : Nat) : -1 ≤ trn A p ax ∧ trn A p ax ≤ 110 := by
  have h1 := loA_b A (2 ^ p) ax
  have h2 := hiA_b A (2 ^ p) ax
  unfold trn
  split <;> omega
theorem dff_b (A : dA) (p q a : Nat) : -99 ≤ dff A p q a ∧ dff A p q a ≤ 99 := by
  have h1 := loA_b A (2 ^ p) a
  have h2 := loA_b A (2 ^ q) a
  unfold dff
  omega
theorem mir_b {ax a : Nat} {T v : Int} (hT : -1 ≤ T ∧ T ≤ 110) (hv : 0 ≤ v ∧ v < 8) : -200 ≤ mir ax a T v ∧ mir ax a T v ≤ 200 := by unfold mir; split <;> omega
theorem alg0 (c : Nat) : alg c 0 = c % 8 := rfl
theorem alg1 (c : Nat) : alg c 1 = c / 8 % 8 := rfl
theorem alg2 (c : Nat) : alg c 2 = c / 64 := rfl
theorem m_isSame {A : dA} {M : xM} (h : mA M A) {p q ax : Nat} (hp : p < aP A) (hq : q < aP A) (hax : ax < 4) : fX12_isSame [.inr (.inr (12, 0)), .inl (iZ (p)), .inl (iZ (q)), .inl (iZ (ax))] M = some (some (.inl (bP (smS A p q ax))), M) := by
  have hP := h.ok.P
  have h2p : 2 ^ p < 512 := Nat.pow_lt_pow_right (n := 9) (by decide) (by omega)
  have h2q : 2 ^ q < 512 := Nat.pow_lt_pow_right (n := 9) (by decide) (by omega)
  have b1 := mnyA_b A p (i := 512) (by omega)
  have b2 := mnyA_b A q (i := 512) (by omega)
  have bT := trn_b A p ax
  have bd0 := dff_b A p q 0
  have bd1 := dff_b A p q 1
  have bd2 := dff_b A p q 2
  by_cases e : mnyA A p 512 = mnyA A q 512
  · have top : fX12_isSame [.inr (.inr (12, 0)), .inl (iZ (p)), .inl (iZ (q)), .inl (iZ (ax))] M = xfix gX12_isSame (103, [some (.inr (.inr (12, 0))), some (.inl (iZ (p))), some (.inl (iZ (q))), some (.inl (iZ (ax))), some (.inl (iZ ((dff A p q 0)))), some (.inl (iZ ((dff A p q 1)))), some (.inl (iZ ((dff A p q 2)))), some (.inl (iZ ((trn A p ax)))), some (.inl (iZ ((0 : Nat)))), none, none, none], [], M) := by
      have l0p := m_lowest h h2p (by omega : 0 < 3)
      have l1p := m_lowest h h2p (by omega : 1 < 3)
      have l2p := m_lowest h h2p (by omega : 2 < 3)
      have l0q := m_lowest h h2q (by omega : 0 < 3)
      have l1q := m_lowest h h2q (by omega : 1 < 3)
      have l2q := m_lowest h h2q (by omega : 2 < 3)
      have e0 : ((0 : Nat) : Int) = 0 := rfl
      have e1 : ((1 : Nat) : Int) = 1 := rfl
      have e2 : ((2 : Nat) : Int) = 2 := rfl
      rw [e0] at l0p l0q
      rw [e1] at l1p l1q
      rw [e2] at l2p l2q
      by_cases d : ax = 3
      · have d' : (ax : Int) = 3 := by omega
        unfold trn dff
        rw [if_pos d]
        show xfix gX12_isSame (0, [some (.inr (.inr (12, 0))), some (.inl (iZ (p))), some (.inl (iZ (q))), some (.inl (iZ (ax))), none, none, none, none, none, none, none, none], [], M) = _; rw [xfix_unf, sX12_isSame_0]
        simp (disch := omega) only [xk_none, xk_inl, xk_inr, xk_ite, xri_v, xrl_v, xrv_v, xb_z0, xb_z1, xb_b2, if_true, if_false, ite_true, ite_false, iZ_lit, iZ_m1, iZ_m99, iZ_m8, iZ_add, iZ_sub, iZ_mul, iZ_neg, nz0, nzi, iZ_lt, iZ_le, iZ_inj, b2_z, b2_o, ite_bPz, ite_bPo, xb_bP, iZ_xin, if_pos, ite_self, ↓reduceIte, Int.reduceAdd, Int.reduceSub, Int.reduceMul, Int.reduceNeg, Int.reduceLT, Int.reduceLE, if_neg, m_many h (by omega : p < 9), m_many h (by omega : q < 9), e, iZ_one, l0p, l1p, l2p, l0q, l1q, l2q, d']
        rfl
      · have la := m_lowest h h2p (by omega : ax < 3)
        have ha := m_highest h h2p (by omega : ax < 3)
        have d' : ¬ (ax : Int) = 3 := by omega
        unfold trn dff
        rw [if_neg d]
        show xfix gX12_isSame (0, [some (.inr (.inr (12, 0))), some (.inl (iZ (p))), some (.inl (iZ (q))), some (.inl (iZ (ax))), none, none, none, none, none, none, none, none], [], M) = _; rw [xfix_unf, sX12_isSame_0]
        simp (disch := omega) only [xk_none, xk_inl, xk_inr, xk_ite, xri_v, xrl_v, xrv_v, xb_z0, xb_z1, xb_b2, if_true, if_false, ite_true, ite_false, iZ_lit, iZ_m1, iZ_m99, iZ_m8, iZ_add, iZ_sub, iZ_mul, iZ_neg, nz0, nzi, iZ_lt, iZ_le, iZ_inj, b2_z, b2_o, ite_bPz, ite_bPo, xb_bP, iZ_xin, if_pos, ite_self, ↓reduceIte, Int.reduceAdd, Int.reduceSub, Int.reduceMul, Int.reduceNeg, Int.reduceLT, Int.reduceLE, if_neg, m_many h (by omega : p < 9), m_many h (by omega : q < 9), e, iZ_one, l0p, l1p, l2p, l0q, l1q, l2q, la, ha]
        rfl
    have hx := xfor_all (sg := gX12_isSame) (st := fun i => (103, [some (.inr (.inr (12, 0))), some (.inl (iZ (p))), some (.inl (iZ (q))), some (.inl (iZ (ax))), some (.inl (iZ ((dff A p q 0)))), some (.inl (iZ ((dff A p q 1)))), some (.inl (iZ ((dff A p q 2)))), some (.inl (iZ ((trn A p ax)))), some (.inl (iZ (i))), none, none, none], [], M)) (R := fun i => some (some (.inl (bP (∀ c, i ≤ c → c < 512 → smC A p q ax c))), M)) (n := 512) (fun i hi ih => by
      rw [all_from hi]
      rw [nS] at ih
      have hC := h.ok.C hi
      by_cases y : aC A i = p
      · have a0 := alg_lt hi 0
        have a1 := alg_lt hi 1
        have a2 := alg_lt hi 2
        have m0 := mir_b (ax := ax) (a := 0) (v := (alg i 0 : Int)) bT (by omega)
        have m1 := mir_b (ax := ax) (a := 1) (v := (alg i 1 : Int)) bT (by omega)
        have m2 := mir_b (ax := ax) (a := 2) (v := (alg i 2 : Int)) bT (by omega)
        have t1 : xfix gX12_isSame (103, [some (.inr (.inr (12, 0))), some (.inl (iZ (p))), some (.inl (iZ (q))), some (.inl (iZ (ax))), some (.inl (iZ ((dff A p q 0)))), some (.inl (iZ ((dff A p q 1)))), some (.inl (iZ ((dff A p q 2)))), some (.inl (iZ ((trn A p ax)))), some (.inl (iZ (i))), none, none, none], [], M) = xfix gX12_isSame (145, [some (.inr (.inr (12, 0))), some (.inl (iZ (p))), some (.inl (iZ (q))), some (.inl (iZ (ax))), some (.inl (iZ ((dff A p q 0)))), some (.inl (iZ ((dff A p q 1)))), some (.inl (iZ ((dff A p q 2)))), some (.inl (iZ ((trn A p ax)))), some (.inl (iZ (i))), none, none, none], [.inl (iZ ((mir ax 0 (trn A p ax) (alg i 0))))], M) := by
          unfold mir
          rw [alg0]
          rw [xfix_unf, sX12_isSame_103]
          simp (disch := omega) only [xk_none, xk_inl, xk_inr, xk_ite, xri_v, xrl_v, xrv_v, xb_z0, xb_z1, xb_b2, if_true, if_false, ite_true, ite_false, iZ_lit, iZ_m1, iZ_m99, iZ_m8, iZ_add, iZ_sub, iZ_mul, iZ_neg, nz0, nzi, iZ_lt, iZ_le, iZ_inj, b2_z, b2_o, ite_bPz, ite_bPo, xb_bP, iZ_xin, if_pos, ite_self, ↓reduceIte, Int.reduceAdd, Int.reduceSub, Int.reduceMul, Int.reduceNeg, Int.reduceLT, Int.reduceLE, if_neg, nS, iZ_clampN, iZ_bit, iZ_one, iZ_and, iZ_or, iZ_ndn, h.C hi, y, iZ_div, z8]
          by_cases z : ax = 0
          · rw [if_pos z, if_pos (by omega)]
          · rw [if_neg z, if_neg (by omega)]
        have t2 : xfix gX12_isSame (145, [some (.inr (.inr (12, 0))), some (.inl (iZ (p))), some (.inl (iZ (q))), some (.inl (iZ (ax))), some (.inl (iZ ((dff A p q 0)))), some (.inl (iZ ((dff A p q 1)))), some (.inl (iZ ((dff A p q 2)))), some (.inl (iZ ((trn A p ax)))), some (.inl (iZ (i))), none, none, none], [.inl (iZ ((mir ax 0 (trn A p ax) (alg i 0))))], M) = xfix gX12_isSame (174, [some (.inr (.inr (12, 0))), some (.inl (iZ (p))), some (.inl (iZ (q))), some (.inl (iZ (ax))), some (.inl (iZ ((dff A p q 0)))), some (.inl (iZ ((dff A p q 1)))), some (.inl (iZ ((dff A p q 2)))), some (.inl (iZ ((trn A p ax)))), some (.inl (iZ (i))), some (.inl (iZ ((mir ax 0 (trn A p ax) (alg i 0))))), none, none], [.inl (iZ ((mir ax 1 (trn A p ax) (alg i 1))))], M) := by
          generalize mir ax 0 (trn A p ax) (alg i 0) = x0
          unfold mir
          rw [alg1]
          rw [xfix_unf, sX12_isSame_145]
          simp (disch := omega) only [xk_none, xk_inl, xk_inr, xk_ite, xri_v, xrl_v, xrv_v, xb_z0, xb_z1, xb_b2, if_true, if_false, ite_true, ite_false, iZ_lit, iZ_m1, iZ_m99, iZ_m8, iZ_add, iZ_sub, iZ_mul, iZ_neg, nz0, nzi, iZ_lt, iZ_le, iZ_inj, b2_z, b2_o, ite_bPz, ite_bPo, xb_bP, iZ_xin, if_pos, ite_self, ↓reduceIte, Int.reduceAdd, Int.reduceSub, Int.reduceMul, Int.reduceNeg, Int.reduceLT, Int.reduceLE, if_neg, nS, iZ_clampN, iZ_bit, iZ_one, iZ_and, iZ_or, iZ_ndn, iZ_div, Int.ediv_nonneg, z88]
          by_cases z : ax = 1
          · rw [if_pos z, if_pos (by omega)]
          · rw [if_neg z, if_neg (by omega)]
        have t3 : xfix gX12_isSame (174, [some (.inr (.inr (12, 0))), some (.inl (iZ (p))), some (.inl (iZ (q))), some (.inl (iZ (ax))), some (.inl (iZ ((dff A p q 0)))), some (.inl (iZ ((dff A p q 1)))), some (.inl (iZ ((dff A p q 2)))), some (.inl (iZ ((trn A p ax)))), some (.inl (iZ (i))), some (.inl (iZ ((mir ax 0 (trn A p ax) (alg i 0))))), none, none], [.inl (iZ ((mir ax 1 (trn A p ax) (alg i 1))))], M) = xfix gX12_isSame (197, [some (.inr (.inr (12, 0))), some (.inl (iZ (p))), some (.inl (iZ (q))), some (.inl (iZ (ax))), some (.inl (iZ ((dff A p q 0)))), some (.inl (iZ ((dff A p q 1)))), some (.inl (iZ ((dff A p q 2)))), some (.inl (iZ ((trn A p ax)))), some (.inl (iZ (i))), some (.inl (iZ ((mir ax 0 (trn A p ax) (alg i 0))))), some (.inl (iZ ((mir ax 1 (trn A p ax) (alg i 1))))), none], [.inl (iZ ((mir ax 2 (trn A p ax) (alg i 2))))], M) := by
          generalize mir ax 0 (trn A p ax) (alg i 0) = x0
          generalize mir ax 1 (trn A p ax) (alg i 1) = x1
          unfold mir
          rw [alg2]
          rw [xfix_unf, sX12_isSame_174]
          simp (disch := omega) only [xk_none, xk_inl, xk_inr, xk_ite, xri_v, xrl_v, xrv_v, xb_z0, xb_z1, xb_b2, if_true, if_false, ite_true, ite_false, iZ_lit, iZ_m1, iZ_m99, iZ_m8, iZ_add, iZ_sub, iZ_mul, iZ_neg, nz0, nzi, iZ_lt, iZ_le, iZ_inj, b2_z, b2_o, ite_bPz, ite_bPo, xb_bP, iZ_xin, if_pos, ite_self, ↓reduceIte, Int.reduceAdd, Int.reduceSub, Int.reduceMul, Int.reduceNeg, Int.reduceLT, Int.reduceLE, if_neg, nS, iZ_clampN, iZ_bit, iZ_one, iZ_and, iZ_or, iZ_ndn, iZ_div, z64]
          by_cases z : ax = 2
          · rw [if_pos z, if_pos (by omega)]
          · rw [if_neg z, if_neg (by omega)]
        rw [t1, t2, t3]
        have hat := aat_le h.ok (mir ax 0 (trn A p ax) (alg i 0) + dff A p q 0) (mir ax 1 (trn A p ax) (alg i 1) + dff A p q 1) (mir ax 2 (trn A p ax) (alg i 2) + dff A p q 2)
        have hm := m_at (mir ax 0 (trn A p ax) (alg i 0) + dff A p q 0) (mir ax 1 (trn A p ax) (alg i 1) + dff A p q 1) (mir ax 2 (trn A p ax) (alg i 2) + dff A p q 2) M h (by omega) (by omega) (by omega)
        rw [xfix_unf, sX12_isSame_197]
        simp (disch := omega) only [xk_none, xk_inl, xk_inr, xk_ite, xri_v, xrl_v, xrv_v, xb_z0, xb_z1, xb_b2, if_true, if_false, ite_true, ite_false, iZ_lit, iZ_m1, iZ_m99, iZ_m8, iZ_add, iZ_sub, iZ_mul, iZ_neg, nz0, nzi, iZ_lt, iZ_le, iZ_inj, b2_z, b2_o, ite_bPz, ite_bPo, xb_bP, iZ_xin, if_pos, ite_self, ↓reduceIte, Int.reduceAdd, Int.reduceSub, Int.reduceMul, Int.reduceNeg, Int.reduceLT, Int.reduceLE, if_neg, nS, iZ_clampN, iZ_bit, iZ_one, iZ_and, iZ_or, iZ_ndn, hm, ih]
        by_cases z : aat A (mir ax 0 (trn A p ax) (alg i 0) + dff A p q 0) (mir ax 1 (trn A p ax) (alg i 1) + dff A p q 1) (mir ax 2 (trn A p ax) (alg i 2) + dff A p q 2) = q
        · rw [if_pos z]; exact rP ⟨fun y => ⟨fun _ => z, y⟩, fun y => y.2⟩
        · rw [if_neg z, bP_f (fun w => z (w.1 y))]
      · rw [xfix_unf, sX12_isSame_103]
        simp (disch := omega) only [xk_none, xk_inl, xk_inr, xk_ite, xri_v, xrl_v, xrv_v, xb_z0, xb_z1, xb_b2, if_true, if_false, ite_true, ite_false, iZ_lit, iZ_m1, iZ_m99, iZ_m8, iZ_add, iZ_sub, iZ_mul, iZ_neg, nz0, nzi, iZ_lt, iZ_le, iZ_inj, b2_z, b2_o, ite_bPz, ite_bPo, xb_bP, iZ_xin, if_pos, ite_self, ↓reduceIte, Int.reduceAdd, Int.reduceSub, Int.reduceMul, Int.reduceNeg, Int.reduceLT, Int.reduceLE, if_neg, nS, iZ_clampN, iZ_bit, iZ_one, iZ_and, iZ_or, iZ_ndn, h.C hi, ih]
        exact rP ⟨fun z => ⟨fun w => absurd w y, z⟩, fun z => z.2⟩) (by
      have e512 : ((512 : Nat) : Int) = 512 := rfl
      rw [xfix_unf, sX12_isSame_103]
      simp (disch := omega) only [xk_none, xk_inl, xk_inr, xk_ite, xri_v, xrl_v, xrv_v, xb_z0, xb_z1, xb_b2, if_true, if_false, ite_true, ite_false, iZ_lit, iZ_m1, iZ_m99, iZ_m8, iZ_add, iZ_sub, iZ_mul, iZ_neg, nz0, nzi, iZ_lt, iZ_le, iZ_inj, b2_z, b2_o, ite_bPz, ite_bPo, xb_bP, iZ_xin, if_pos, ite_self, ↓reduceIte, Int.reduceAdd, Int.reduceSub, Int.reduceMul, Int.reduceNeg, Int.reduceLT, Int.reduceLE, if_neg, e512]
      rw [bP_t (fun c h1 h2 => by omega)]) (i := 0) (by omega)
    rw [top]
    exact hx.trans (rP ⟨fun z => ⟨e, fun c hc => z c (by omega) hc⟩, fun z c _ hc => z.2 c hc⟩)
  · rw [bP_f (fun z => e z.1)]
    show xfix gX12_isSame (0, [some (.inr (.inr (12, 0))), some (.inl (iZ (p))), some (.inl (iZ (q))), some (.inl (iZ (ax))), none, none, none, none, none, none, none, none], [], M) = _; rw [xfix_unf, sX12_isSame_0]
    simp (disch := omega) only [xk_none, xk_inl, xk_inr, xk_ite, xri_v, xrl_v, xrv_v, xb_z0, xb_z1, xb_b2, if_true, if_false, ite_true, ite_false, iZ_lit, iZ_m1, iZ_m99, iZ_m8, iZ_add, iZ_sub, iZ_mul, iZ_neg, nz0, nzi, iZ_lt, iZ_le, iZ_inj, b2_z, b2_o, ite_bPz, ite_bPo, xb_bP, iZ_xin, if_pos, ite_self, ↓reduceIte, Int.reduceAdd, Int.reduceSub, Int.reduceMul, Int.reduceNeg, Int.reduceLT, Int.reduceLE, if_neg, m_many h (by omega : p < 9), m_many h (by omega : q < 9)]
noncomputable def sLike (A : dA) (p q w : Int) : Int := vI (vP A p ∧ vP A q ∧ 0 ≤ w ∧ w ≤ 3) (ind (smS A p.toNat q.toNat (if w = 0 then 3 else (w - 1).toNat)))
theorem q_like {A : dA} {M : xM} (h : mQ M A) {p q w : Int} (hp : r32 p) (hq : r32 q) (hw : r32 w) : qR M A (fX12_like [.inr (.inr (12, 0)), .inl (iZ (p)), .inl (iZ (q)), .inl (iZ (w))] M) (.inl (iZ (sLike A p q w))) := by
  have hP9 := h.A.ok.P
  refine qR.of h ?_
  unfold sLike
  by_cases e1 : vP A p
  · by_cases e2 : vP A q
    · by_cases e3 : 0 ≤ w ∧ w ≤ 3
      · rw [vI_t ⟨e1, e2, e3⟩]
        obtain ⟨p, rfl, h1⟩ := e1.n
        obtain ⟨q, rfl, h2⟩ := e2.n
        have enp : ((p : Int)).toNat = p := by omega
        have enq : ((q : Int)).toNat = q := by omega
        rw [enp, enq]
        show xfix gX12_like (0, [some (.inr (.inr (12, 0))), some (.inl (iZ (p))), some (.inl (iZ (q))), some (.inl (iZ (w)))], [], M) = _; rw [xfix_unf, sX12_like_0]
        rw [k_isPart h.A hp, xri_v, k_isPart h.A hq]
        by_cases e4 : w = 0
        · rw [if_pos e4]
          have hm := m_isSame h.A h1 h2 (ax := 3) (by omega)
          rw [show ((3 : Nat) : Int) = 3 from rfl] at hm
          simp (disch := omega) only [xk_none, xk_inl, xk_inr, xk_ite, xri_v, xrl_v, xrv_v, xb_z0, xb_z1, xb_b2, if_true, if_false, ite_true, ite_false, iZ_lit, iZ_m1, iZ_m99, iZ_m8, iZ_add, iZ_sub, iZ_mul, iZ_neg, nz0, nzi, iZ_lt, iZ_le, iZ_inj, b2_z, b2_o, ite_bPz, ite_bPo, xb_bP, iZ_xin, if_pos, ite_self, ↓reduceIte, Int.reduceAdd, Int.reduceSub, Int.reduceMul, Int.reduceNeg, Int.reduceLT, Int.reduceLE, if_neg, e1, e2, k_isIn, e3, and_self, hm]
          by_cases y : smS A p q 3
          · rw [if_pos y, ind_t y]
          · rw [if_neg y, ind_f y]
        · rw [if_neg e4]
          obtain ⟨a, ha⟩ : ∃ a : Nat, w - 1 = a := ⟨(w - 1).toNat, by omega⟩
          have hm := m_isSame h.A h1 h2 (ax := a) (by omega)
          rw [ha]
          have ena : ((a : Int)).toNat = a := by omega
          rw [ena]
          simp (disch := omega) only [xk_none, xk_inl, xk_inr, xk_ite, xri_v, xrl_v, xrv_v, xb_z0, xb_z1, xb_b2, if_true, if_false, ite_true, ite_false, iZ_lit, iZ_m1, iZ_m99, iZ_m8, iZ_add, iZ_sub, iZ_mul, iZ_neg, nz0, nzi, iZ_lt, iZ_le, iZ_inj, b2_z, b2_o, ite_bPz, ite_bPo, xb_bP, iZ_xin, if_pos, ite_self, ↓reduceIte, Int.reduceAdd, Int.reduceSub, Int.reduceMul, Int.reduceNeg, Int.reduceLT, Int.reduceLE, if_neg, e1, e2, k_isIn, e3, and_self, ha, hm]
          by_cases y : smS A p q a
          · rw [if_pos y, ind_t y]
          · rw [if_neg y, ind_f y]
      · rw [vI_f (fun z => e3 z.2.2)]
        show xfix gX12_like (0, [some (.inr (.inr (12, 0))), some (.inl (iZ (p))), some (.inl (iZ (q))), some (.inl (iZ (w)))], [], M) = _; rw [xfix_unf, sX12_like_0]
        rw [k_isPart h.A hp, xri_v, k_isPart h.A hq]
        simp (disch := omega) only [xk_none, xk_inl, xk_inr, xk_ite, xri_v, xrl_v, xrv_v, xb_z0, xb_z1, xb_b2, if_true, if_false, ite_true, ite_false, iZ_lit, iZ_m1, iZ_m99, iZ_m8, iZ_add, iZ_sub, iZ_mul, iZ_neg, nz0, nzi, iZ_lt, iZ_le, iZ_inj, b2_z, b2_o, ite_bPz, ite_bPo, xb_bP, iZ_xin, if_pos, ite_self, ↓reduceIte, Int.reduceAdd, Int.reduceSub, Int.reduceMul, Int.reduceNeg, Int.reduceLT, Int.reduceLE, if_neg, e1, e2, k_isIn, e3]
    · rw [vI_f (fun z => e2 z.2.1)]
      show xfix gX12_like (0, [some (.inr (.inr (12, 0))), some (.inl (iZ (p))), some (.inl (iZ (q))), some (.inl (iZ (w)))], [], M) = _; rw [xfix_unf, sX12_like_0]
      rw [k_isPart h.A hp, xri_v, k_isPart h.A hq]
      simp (disch := omega) only [xk_none, xk_inl, xk_inr, xk_ite, xri_v, xrl_v, xrv_v, xb_z0, xb_z1, xb_b2, if_true, if_false, ite_true, ite_false, iZ_lit, iZ_m1, iZ_m99, iZ_m8, iZ_add, iZ_sub, iZ_mul, iZ_neg, nz0, nzi, iZ_lt, iZ_le, iZ_inj, b2_z, b2_o, ite_bPz, ite_bPo, xb_bP, iZ_xin, if_pos, ite_self, ↓reduceIte, Int.reduceAdd, Int.reduceSub, Int.reduceMul, Int.reduceNeg, Int.reduceLT, Int.reduceLE, if_neg, e1, e2]
  · rw [vI_f (fun z => e1 z.1)]
    show xfix gX12_like (0, [some (.inr (.inr (12, 0))), some (.inl (iZ (p))), some (.inl (iZ (q))), some (.inl (iZ (w)))], [], M) = _; rw [xfix_unf, sX12_like_0]
    simp (disch := omega) only [xk_none, xk_inl, xk_inr, xk_ite, xri_v, xrl_v, xrv_v, xb_z0, xb_z1, xb_b2, if_true, if_false, ite_true, ite_false, iZ_lit, iZ_m1, iZ_m99, iZ_m8, iZ_add, iZ_sub, iZ_mul, iZ_neg, nz0, nzi, iZ_lt, iZ_le, iZ_inj, b2_z, b2_o, ite_bPz, ite_bPo, xb_bP, iZ_xin, if_pos, ite_self, ↓reduceIte, Int.reduceAdd, Int.reduceSub, Int.reduceMul, Int.reduceNeg, Int.reduceLT, Int.reduceLE, if_neg, k_isPart h.A hp, e1]
/-- turned about where it is, it meets nobody else -/
def mrC (A : dA) (p ax c : Nat) : Prop := aC A c = p → aat A (mir ax 0 (trn A p ax) (alg c 0)) (mir ax 1 (trn A p ax) (alg c 1)) (mir ax 2 (trn A p ax) (alg c 2)) = -1 ∨ aat A (mir ax 0 (trn A p ax) (alg c 0)) (mir ax 1 (trn A p ax) (alg c 1)) (mir ax 2 (trn A p ax) (alg c 2)) = p
noncomputable def sMirrored (A : dA) (p a : Int) : Int := vI (vP A p ∧ 0 ≤ a ∧ a ≤ 2) (ind (¬ smS A p.toNat p.toNat a.toNat ∧ ∀ c, c < 512 → mrC A p.toNat a.toNat c))
theorem q_mirrored {A : dA} {M : xM} (h : mQ M A) {p a : Int} (hp : r32 p) (ha : r32 a) : qR M A (fX12_mirrored [.inr (.inr (12, 0)), .inl (iZ (p)), .inl (iZ (a))] M) (.inl (iZ (sMirrored A p a))) := by
  have hP9 := h.A.ok.P
  refine qR.of h ?_
  unfold sMirrored
  by_cases e1 : vP A p
  · by_cases e3 : 0 ≤ a ∧ a ≤ 2
    · rw [vI_t ⟨e1, e3⟩]
      obtain ⟨p, rfl, h1⟩ := e1.n
      obtain ⟨ax, rfl⟩ : ∃ n : Nat, a = n := ⟨a.toNat, by omega⟩
      have enp : ((p : Int)).toNat = p := by omega
      have ena : ((ax : Int)).toNat = ax := by omega
      rw [enp, ena]
      have h2p : 2 ^ p < 512 := Nat.pow_lt_pow_right (n := 9) (by decide) (by omega)
      have hm := m_isSame h.A h1 h1 (ax := ax) (by omega)
      by_cases y : smS A p p ax
      · rw [ind_f (fun z => z.1 y)]
        show xfix gX12_mirrored (0, [some (.inr (.inr (12, 0))), some (.inl (iZ (p))), some (.inl (iZ (ax))), none, none, none], [], M) = _; rw [xfix_unf, sX12_mirrored_0]
        simp (disch := omega) only [xk_none, xk_inl, xk_inr, xk_ite, xri_v, xrl_v, xrv_v, xb_z0, xb_z1, xb_b2, if_true, if_false, ite_true, ite_false, iZ_lit, iZ_m1, iZ_m99, iZ_m8, iZ_add, iZ_sub, iZ_mul, iZ_neg, nz0, nzi, iZ_lt, iZ_le, iZ_inj, b2_z, b2_o, ite_bPz, ite_bPo, xb_bP, iZ_xin, if_pos, ite_self, ↓reduceIte, Int.reduceAdd, Int.reduceSub, Int.reduceMul, Int.reduceNeg, Int.reduceLT, Int.reduceLE, if_neg, k_isPart h.A hp, e1, k_isIn, e3, and_self, hm, y]
      · have bT := trn_b A p ax
        have hx := xfor_all (sg := gX12_mirrored) (st := fun i => (52, [some (.inr (.inr (12, 0))), some (.inl (iZ (p))), some (.inl (iZ (ax))), some (.inl (iZ ((trn A p ax)))), some (.inl (iZ (i))), none], [], M)) (R := fun i => some (some (.inl (iZ (ind (∀ c, i ≤ c → c < 512 → mrC A p ax c)))), M)) (n := 512) (fun i hi ih => by
          rw [all_from hi]
          rw [nS] at ih
          have hC := h.A.ok.C hi
          by_cases y : aC A i = p
          · have a0 := alg_lt hi 0
            have a1 := alg_lt hi 1
            have a2 := alg_lt hi 2
            have m0 := mir_b (ax := ax) (a := 0) (v := (alg i 0 : Int)) bT (by omega)
            have m1 := mir_b (ax := ax) (a := 1) (v := (alg i 1 : Int)) bT (by omega)
            have m2 := mir_b (ax := ax) (a := 2) (v := (alg i 2 : Int)) bT (by omega)
            have t1 : xfix gX12_mirrored (52, [some (.inr (.inr (12, 0))), some (.inl (iZ (p))), some (.inl (iZ (ax))), some (.inl (iZ ((trn A p ax)))), some (.inl (iZ (i))), none], [], M) = xfix gX12_mirrored (94, [some (.inr (.inr (12, 0))), some (.inl (iZ (p))), some (.inl (iZ (ax))), some (.inl (iZ ((trn A p ax)))), some (.inl (iZ (i))), none], [.inl (iZ ((mir ax 0 (trn A p ax) (alg i 0)))), .inr (.inr (12, 0))], M) := by
              unfold mir
              rw [alg0]
              rw [xfix_unf, sX12_mirrored_52]
              simp (disch := omega) only [xk_none, xk_inl, xk_inr, xk_ite, xri_v, xrl_v, xrv_v, xb_z0, xb_z1, xb_b2, if_true, if_false, ite_true, ite_false, iZ_lit, iZ_m1, iZ_m99, iZ_m8, iZ_add, iZ_sub, iZ_mul, iZ_neg, nz0, nzi, iZ_lt, iZ_le, iZ_inj, b2_z, b2_o, ite_bPz, ite_bPo, xb_bP, iZ_xin, if_pos, ite_self, ↓reduceIte, Int.reduceAdd, Int.reduceSub, Int.reduceMul, Int.reduceNeg, Int.reduceLT, Int.reduceLE, if_neg, nS, iZ_clampN, iZ_bit, iZ_one, iZ_and, iZ_or, iZ_ndn, h.A.C hi, y, iZ_div, z8]
              by_cases z : ax = 0
              · rw [if_pos z, if_pos (by omega)]
              · rw [if_neg z, if_neg (by omega)]
            have t2 : xfix gX12_mirrored (94, [some (.inr (.inr (12, 0))), some (.inl (iZ (p))), some (.inl (iZ (ax))), some (.inl (iZ ((trn A p ax)))), some (.inl (iZ (i))), none], [.inl (iZ ((mir ax 0 (trn A p ax) (alg i 0)))), .inr (.inr (12, 0))], M) = xfix gX12_mirrored (120, [some (.inr (.inr (12, 0))), some (.inl (iZ (p))), some (.inl (iZ (ax))), some (.inl (iZ ((trn A p ax)))), some (.inl (iZ (i))), none], [.inl (iZ ((mir ax 1 (trn A p ax) (alg i 1)))), .inl (iZ ((mir ax 0 (trn A p ax) (alg i 0)))), .inr (.inr (12, 0))], M) := by
              generalize mir ax 0 (trn A p ax) (alg i 0) = x0
              unfold mir
              rw [alg1]
              rw [xfix_unf, sX12_mirrored_94]
              simp (disch := omega) only [xk_none, xk_inl, xk_inr, xk_ite, xri_v, xrl_v, xrv_v, xb_z0, xb_z1, xb_b2, if_true, if_false, ite_true, ite_false, iZ_lit, iZ_m1, iZ_m99, iZ_m8, iZ_add, iZ_sub, iZ_mul, iZ_neg, nz0, nzi, iZ_lt, iZ_le, iZ_inj, b2_z, b2_o, ite_bPz, ite_bPo, xb_bP, iZ_xin, if_pos, ite_self, ↓reduceIte, Int.reduceAdd, Int.reduceSub, Int.reduceMul, Int.reduceNeg, Int.reduceLT, Int.reduceLE, if_neg, nS, iZ_clampN, iZ_bit, iZ_one, iZ_and, iZ_or, iZ_ndn, iZ_div, Int.ediv_nonneg, z88]
              by_cases z : ax = 1
              · rw [if_pos z, if_pos (by omega)]
              · rw [if_neg z, if_neg (by omega)]
            have t3 : xfix gX12_mirrored (120, [some (.inr (.inr (12, 0))), some (.inl (iZ (p))), some (.inl (iZ (ax))), some (.inl (iZ ((trn A p ax)))), some (.inl (iZ (i))), none], [.inl (iZ ((mir ax 1 (trn A p ax) (alg i 1)))), .inl (iZ ((mir ax 0 (trn A p ax) (alg i 0)))), .inr (.inr (12, 0))], M) = xfix gX12_mirrored (140, [some (.inr (.inr (12, 0))), some (.inl (iZ (p))), some (.inl (iZ (ax))), some (.inl (iZ ((trn A p ax)))), some (.inl (iZ (i))), none], [.inl (iZ ((mir ax 2 (trn A p ax) (alg i 2)))), .inl (iZ ((mir ax 1 (trn A p ax) (alg i 1)))), .inl (iZ ((mir ax 0 (trn A p ax) (alg i 0)))), .inr (.inr (12, 0))], M) := by
              generalize mir ax 0 (trn A p ax) (alg i 0) = x0
              generalize mir ax 1 (trn A p ax) (alg i 1) = x1
              unfold mir
              rw [alg2]
              rw [xfix_unf, sX12_mirrored_120]
              simp (disch := omega) only [xk_none, xk_inl, xk_inr, xk_ite, xri_v, xrl_v, xrv_v, xb_z0, xb_z1, xb_b2, if_true, if_false, ite_true, ite_false, iZ_lit, iZ_m1, iZ_m99, iZ_m8, iZ_add, iZ_sub, iZ_mul, iZ_neg, nz0, nzi, iZ_lt, iZ_le, iZ_inj, b2_z, b2_o, ite_bPz, ite_bPo, xb_bP, iZ_xin, if_pos, ite_self, ↓reduceIte, Int.reduceAdd, Int.reduceSub, Int.reduceMul, Int.reduceNeg, Int.reduceLT, Int.reduceLE, if_neg, nS, iZ_clampN, iZ_bit, iZ_one, iZ_and, iZ_or, iZ_ndn, iZ_div, z64]
              by_cases z : ax = 2
              · rw [if_pos z, if_pos (by omega)]
              · rw [if_neg z, if_neg (by omega)]
            rw [t1, t2, t3]
            have hat := aat_le h.A.ok (mir ax 0 (trn A p ax) (alg i 0)) (mir ax 1 (trn A p ax) (alg i 1)) (mir ax 2 (trn A p ax) (alg i 2))
            have hm := m_at (mir ax 0 (trn A p ax) (alg i 0)) (mir ax 1 (trn A p ax) (alg i 1)) (mir ax 2 (trn A p ax) (alg i 2)) M h.A (by omega) (by omega) (by omega)
            rw [xfix_unf, sX12_mirrored_140]
            simp (disch := omega) only [xk_none, xk_inl, xk_inr, xk_ite, xri_v, xrl_v, xrv_v, xb_z0, xb_z1, xb_b2, if_true, if_false, ite_true, ite_false, iZ_lit, iZ_m1, iZ_m99, iZ_m8, iZ_add, iZ_sub, iZ_mul, iZ_neg, nz0, nzi, iZ_lt, iZ_le, iZ_inj, b2_z, b2_o, ite_bPz, ite_bPo, xb_bP, iZ_xin, if_pos, ite_self, ↓reduceIte, Int.reduceAdd, Int.reduceSub, Int.reduceMul, Int.reduceNeg, Int.reduceLT, Int.reduceLE, if_neg, nS, iZ_clampN, iZ_bit, iZ_one, iZ_and, iZ_or, iZ_ndn, hm, ih]
            generalize ez : aat A (mir ax 0 (trn A p ax) (alg i 0)) (mir ax 1 (trn A p ax) (alg i 1)) (mir ax 2 (trn A p ax) (alg i 2)) = z at *
            by_cases z1 : z = -1
            · rw [if_pos z1]; exact rN ⟨fun z => ⟨fun _ => .inl (ez.trans z1), z⟩, fun z => z.2⟩
            · rw [if_neg z1]
              by_cases z2 : z = p
              · rw [if_pos z2]; exact rN ⟨fun z => ⟨fun _ => .inr (ez.trans z2), z⟩, fun z => z.2⟩
              · rw [if_neg z2, ind_f (fun w => (w.1 y).elim (fun q => z1 (ez.symm.trans q)) (fun q => z2 (ez.symm.trans q)))]
          · rw [xfix_unf, sX12_mirrored_52]
            simp (disch := omega) only [xk_none, xk_inl, xk_inr, xk_ite, xri_v, xrl_v, xrv_v, xb_z0, xb_z1, xb_b2, if_true, if_false, ite_true, ite_false, iZ_lit, iZ_m1, iZ_m99, iZ_m8, iZ_add, iZ_sub, iZ_mul, iZ_neg, nz0, nzi, iZ_lt, iZ_le, iZ_inj, b2_z, b2_o, ite_bPz, ite_bPo, xb_bP, iZ_xin, if_pos, ite_self, ↓reduceIte, Int.reduceAdd, Int.reduceSub, Int.reduceMul, Int.reduceNeg, Int.reduceLT, Int.reduceLE, if_neg, nS, iZ_clampN, iZ_bit, iZ_one, iZ_and, iZ_or, iZ_ndn, h.A.C hi, ih]
            exact rN ⟨fun z => ⟨fun w => absurd w y, z⟩, fun z => z.2⟩) (by
          have e512 : ((512 : Nat) : Int) = 512 := rfl
          rw [xfix_unf, sX12_mirrored_52]
          simp (disch := omega) only [xk_none, xk_inl, xk_inr, xk_ite, xri_v, xrl_v, xrv_v, xb_z0, xb_z1, xb_b2, if_true, if_false, ite_true, ite_false, iZ_lit, iZ_m1, iZ_m99, iZ_m8, iZ_add, iZ_sub, iZ_mul, iZ_neg, nz0, nzi, iZ_lt, iZ_le, iZ_inj, b2_z, b2_o, ite_bPz, ite_bPo, xb_bP, iZ_xin, if_pos, ite_self, ↓reduceIte, Int.reduceAdd, Int.reduceSub, Int.reduceMul, Int.reduceNeg, Int.reduceLT, Int.reduceLE, if_neg, e512]
          rw [ind_t (fun c h1 h2 => by omega)]) (i := 0) (by omega)
        have la := m_lowest h.A h2p (by omega : ax < 3)
        have hha := m_highest h.A h2p (by omega : ax < 3)
        have et : trn A p ax = loA A (2 ^ p) ax + hiA A (2 ^ p) ax := by unfold trn; rw [if_neg (by omega)]
        rw [propext (⟨fun z c _ hc => z.2 c hc, fun z => ⟨y, fun c hc => z c (by omega) hc⟩⟩ : (¬ smS A p p ax ∧ ∀ c, c < 512 → mrC A p ax c) ↔ ∀ c, 0 ≤ c → c < 512 → mrC A p ax c), ← hx, et]
        show xfix gX12_mirrored (0, [some (.inr (.inr (12, 0))), some (.inl (iZ (p))), some (.inl (iZ (ax))), none, none, none], [], M) = _; rw [xfix_unf, sX12_mirrored_0]
        simp (disch := omega) only [xk_none, xk_inl, xk_inr, xk_ite, xri_v, xrl_v, xrv_v, xb_z0, xb_z1, xb_b2, if_true, if_false, ite_true, ite_false, iZ_lit, iZ_m1, iZ_m99, iZ_m8, iZ_add, iZ_sub, iZ_mul, iZ_neg, nz0, nzi, iZ_lt, iZ_le, iZ_inj, b2_z, b2_o, ite_bPz, ite_bPo, xb_bP, iZ_xin, if_pos, ite_self, ↓reduceIte, Int.reduceAdd, Int.reduceSub, Int.reduceMul, Int.reduceNeg, Int.reduceLT, Int.reduceLE, if_neg, k_isPart h.A hp, e1, k_isIn, e3, and_self, hm, y, iZ_one, la, hha]
        rfl
    · rw [vI_f (fun z => e3 z.2)]
      show xfix gX12_mirrored (0, [some (.inr (.inr (12, 0))), some (.inl (iZ (p))), some (.inl (iZ (a))), none, none, none], [], M) = _; rw [xfix_unf, sX12_mirrored_0]
      simp (disch := omega) only [xk_none, xk_inl, xk_inr, xk_ite, xri_v, xrl_v, xrv_v, xb_z0, xb_z1, xb_b2, if_true, if_false, ite_true, ite_false, iZ_lit, iZ_m1, iZ_m99, iZ_m8, iZ_add, iZ_sub, iZ_mul, iZ_neg, nz0, nzi, iZ_lt, iZ_le, iZ_inj, b2_z, b2_o, ite_bPz, ite_bPo, xb_bP, iZ_xin, if_pos, ite_self, ↓reduceIte, Int.reduceAdd, Int.reduceSub, Int.reduceMul, Int.reduceNeg, Int.reduceLT, Int.reduceLE, if_neg, k_isPart h.A hp, e1, k_isIn, e3]
  · rw [vI_f (fun z => e1 z.1)]
    show xfix gX12_mirrored (0, [some (.inr (.inr (12, 0))), some (.inl (iZ (p))), some (.inl (iZ (a))), none, none, none], [], M) = _; rw [xfix_unf, sX12_mirrored_0]
    simp (disch := omega) only [xk_none, xk_inl, xk_inr, xk_ite, xri_v, xrl_v, xrv_v, xb_z0, xb_z1, xb_b2, if_true, if_false, ite_true, ite_false, iZ_lit, iZ_m1, iZ_m99, iZ_m8, iZ_add, iZ_sub, iZ_mul, iZ_neg, nz0, nzi, iZ_lt, iZ_le, iZ_inj, b2_z, b2_o, ite_bPz, ite_bPo, xb_bP, iZ_xin, if_pos, ite_self, ↓reduceIte, Int.reduceAdd, Int.reduceSub, Int.reduceMul, Int.reduceNeg, Int.reduceLT, Int.reduceLE, if_neg, k_isPart h.A hp, e1]
