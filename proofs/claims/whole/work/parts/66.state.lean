/-! the reference: what it keeps beside the thing -/
/-- tape (how long, bytes), fault (which, where), heaps, cuts, names (how long, letters), the last judgement -/
abbrev dS : Type := (Nat × (Nat → Nat)) × (Int × Int) × ((Nat → Nat) × Int) × ((Nat → Nat) × (Nat → Nat → Nat)) × (Int × Int × Int × Int)
def sN (S : dS) : Nat := S.1.1
def sT (S : dS) : Nat → Nat := S.1.2
def sFk (S : dS) : Int := S.2.1.1
def sFp (S : dS) : Int := S.2.1.2
def sH (S : dS) : Nat → Nat := S.2.2.1.1
def sC (S : dS) : Int := S.2.2.1.2
def sNl (S : dS) : Nat → Nat := S.2.2.2.1.1
def sNc (S : dS) : Nat → Nat → Nat := S.2.2.2.1.2
def sJ (S : dS) : Int × Int × Int × Int := S.2.2.2.2
def stO (A : dA) (S : dS) : Prop := sN S ≤ 800 ∧ (∀ k, k < sN S → sT S k < 256) ∧ (∀ p, p < aP A → sH S p < 2 ^ aP A ∧ (sH S p).testBit p = true) ∧ (∀ q, q < aP A → 1 ≤ sNl S q ∧ sNl S q ≤ 6 ∧ ∀ k, k < sNl S q → 97 ≤ sNc S q k ∧ sNc S q k ≤ 122)
def mS (M : xM) (A : dA) (S : dS) : Prop := (xI M (12, 0) 18 = iZ (sN S) ∧ ∀ k, k < sN S → xI M (110, 0) k = iZ (sT S k)) ∧ (xI M (12, 0) 25 = iZ (sFk S) ∧ xI M (12, 0) 29 = iZ (sFp S)) ∧ ((∀ p, p < aP A → xI M (157, 0) p = iZ (sH S p)) ∧ xI M (12, 0) 58 = iZ (sC S)) ∧ (∀ q, q < aP A → xI M (166, 0) q = iZ (sNl S q) ∧ ∀ k, k < sNl S q → xI M (165, 0) (6 * q + k) = iZ (sNc S q k)) ∧ (xI M (12, 0) 71 = iZ (sJ S).1 ∧ xI M (12, 0) 72 = iZ (sJ S).2.1 ∧ xI M (12, 0) 73 = iZ (sJ S).2.2.1 ∧ xI M (12, 0) 74 = iZ (sJ S).2.2.2)
theorem mS.ro {M M' : xM} {A : dA} {S : dS} (h : mS M A S) (hs : fB M M') : mS M' A S := by
  obtain ⟨⟨a1, a2⟩, ⟨b1, b2⟩, ⟨c1, c2⟩, d, e1, e2, e3, e4⟩ := h
  refine ⟨⟨?_, fun k hk => ?_⟩, ⟨?_, ?_⟩, ⟨fun p hp => ?_, ?_⟩, fun q hq => ⟨?_, fun k hk => ?_⟩, ?_, ?_, ?_, ?_⟩
  · rw [(hs (12, 0) 18 (by decide)).1]; exact a1
  · rw [(hs (110, 0) k (fun z => Bool.noConfusion z)).1]; exact a2 k hk
  · rw [(hs (12, 0) 25 (by decide)).1]; exact b1
  · rw [(hs (12, 0) 29 (by decide)).1]; exact b2
  · rw [(hs (157, 0) p (fun z => Bool.noConfusion z)).1]; exact c1 p hp
  · rw [(hs (12, 0) 58 (by decide)).1]; exact c2
  · rw [(hs (166, 0) q (fun z => Bool.noConfusion z)).1]; exact (d q hq).1
  · rw [(hs (165, 0) (6 * q + k) (fun z => Bool.noConfusion z)).1]; exact (d q hq).2 k hk
  · rw [(hs (12, 0) 71 (by decide)).1]; exact e1
  · rw [(hs (12, 0) 72 (by decide)).1]; exact e2
  · rw [(hs (12, 0) 73 (by decide)).1]; exact e3
  · rw [(hs (12, 0) 74 (by decide)).1]; exact e4
/-- every part has a cell, and whose a cell is is told in one way -/
def aFl (A : dA) : Prop := ∀ p, p < aP A → ∃ c, c < 512 ∧ aC A c = p
/-- all that the reference holds -/
def mZ (M : xM) (A : dA) (S : dS) : Prop := mQ M A ∧ mS M A S ∧ stO A S ∧ aFl A
/-- a call answers, and the new state is held -/
def zR (o : Option (Option xV × xM)) (r : xV) (A : dA) (S : dS) : Prop := ∃ M', o = some (some r, M') ∧ mZ M' A S
theorem qR.z {M : xM} {A : dA} {S : dS} {o : Option (Option xV × xM)} {r : xV} (h : mZ M A S) (q : qR M A o r) : zR o r A S := by
  obtain ⟨M', a1, a2, a3⟩ := q
  exact ⟨M', a1, a2, h.2.1.ro a3, h.2.2⟩
-- new states
def wPr (A : dA) (w v : Nat) : dA := (aP A, aC A, aJ A, aOne A, aTwo A, aAt A, aWay A, (fun k => if k = w then v else aPr A k), aBent A, aSw A)
def wBn (A : dA) (p : Nat) (b : Bool) : dA := (aP A, aC A, aJ A, aOne A, aTwo A, aAt A, aWay A, aPr A, (fun k => if k = p then b else aBent A k), aSw A)
def wSw (A : dA) (i : Nat) (b : Bool) : dA := (aP A, aC A, aJ A, aOne A, aTwo A, aAt A, aWay A, aPr A, aBent A, (fun k => if k = i then b else aSw A k))
/-- what depends on parts and cells alone stays -/
theorem low_eq {A B : dA} (hC : aC A = aC B) : lowS A = lowS B ∧ belS A = belS B := by
  unfold lowS belS
  rw [hC]
  exact ⟨rfl, rfl⟩
theorem flr_eq {A B : dA} (hC : aC A = aC B) : flr A = flr B := by
  funext heap i
  induction i with
  | zero => rfl
  | succ i ih =>
    unfold flr
    rw [ih, (low_eq hC).1]
theorem inH_eq {A B : dA} (hC : aC A = aC B) : inH A = inH B := by unfold inH; rw [hC]
theorem rstS_eq {A B : dA} (hC : aC A = aC B) (hP : aP A = aP B) : rstS A = rstS B := by
  unfold rstS rst
  rw [(low_eq hC).1, (low_eq hC).2, hP]
theorem tps_eq {A B : dA} (hC : aC A = aC B) : tps A = tps B := by
  unfold tps tN tX tY onX onY
  rw [inH_eq hC]
theorem hnd_eq {A B : dA} (hC : aC A = aC B) (hP : aP A = aP B) : hnd A = hnd B := by
  funext heap
  unfold hnd fw hq
  rw [flr_eq hC, rstS_eq hC hP, tps_eq hC, hP]
theorem mnyA_eq {A B : dA} (hC : aC A = aC B) : mnyA A = mnyA B := by unfold mnyA; rw [hC]
theorem bgn_eq {A B : dA} (hC : aC A = aC B) : bgn A = bgn B := by unfold bgn bgI; rw [mnyA_eq hC]
theorem lo_eq {A B : dA} (hC : aC A = aC B) : loA A = loA B ∧ hiA A = hiA B := by
  unfold loA hiA hasA
  rw [inH_eq hC]
  exact ⟨rfl, rfl⟩
theorem mLs_eq {A B : dA} (hC : aC A = aC B) (hP : aP A = aP B) {M : xM} (h : mLs M A) : mLs M B := by
  unfold mLs at h ⊢
  rw [← hC, ← hP, ← bgn_eq hC, ← (lo_eq hC).1, ← (lo_eq hC).2]
  exact h
/-- a thing that is told of anew, its parts and cells being the same -/
theorem mQ.re {M M' : xM} {A B : dA} (h : mQ M A) (hC : aC A = aC B) (hP : aP A = aP B) (hs : xSm (fun r j => (r = (12, 0) ∧ j = 31) ∨ r = (108, 0) ∨ r = (109, 0) ∨ r = (159, 0)) M M') (h31 : xI M' (12, 0) 31 = iZ 0) (hA : mA M' B) : mQ M' B := by
  refine ⟨hA, ?_, ?_, ?_, .inl h31, ?_⟩
  · have w := h.W
    unfold mW at w ⊢
    rw [← (low_eq hC).1, ← (low_eq hC).2]
    exact ⟨fun p hp => by rw [(hs (142, 0) p (by simp)).1]; exact w.1 p (by rw [hP]; exact hp), fun p hp => by rw [(hs (143, 0) p (by simp)).1]; exact w.2 p (by rw [hP]; exact hp)⟩
  · intro k k1 k2
    rw [← hnd_eq hC hP, (hs (139, 0) k (by simp)).1]
    exact h.H k k1 (by rw [hP]; exact k2)
  · exact mLs_eq hC hP (h.L.sm hs (by
      intro r hr j
      simp only [List.mem_cons, List.mem_nil_iff, or_false] at hr
      rcases hr with e | e | e <;> subst e <;> simp))
  · have e82 : xI M' (12, 0) 82 = xI M (12, 0) 82 := (hs (12, 0) 82 (by simp)).1
    rw [e82]
    rcases h.2.2.2.2.2 with z | z
    · exact .inl z
    · exact .inr ⟨z.1, fun y => by rw [h31] at y; exact absurd y (by decide +kernel)⟩
theorem mS.re {M M' : xM} {A B : dA} {S : dS} (h : mS M A S) (hP : aP A = aP B) (hs : xSm (fun r j => (r = (12, 0) ∧ j = 31) ∨ r = (108, 0) ∨ r = (109, 0) ∨ r = (159, 0)) M M') : mS M' B S := by
  obtain ⟨⟨a1, a2⟩, ⟨b1, b2⟩, ⟨c1, c2⟩, d, e1, e2, e3, e4⟩ := h
  rw [hP] at c1 d
  refine ⟨⟨?_, fun k hk => ?_⟩, ⟨?_, ?_⟩, ⟨fun p hp => ?_, ?_⟩, fun q hq => ⟨?_, fun k hk => ?_⟩, ?_, ?_, ?_, ?_⟩
  · rw [(hs (12, 0) 18 (by simp)).1]; exact a1
  · rw [(hs (110, 0) k (by simp)).1]; exact a2 k hk
  · rw [(hs (12, 0) 25 (by simp)).1]; exact b1
  · rw [(hs (12, 0) 29 (by simp)).1]; exact b2
  · rw [(hs (157, 0) p (by simp)).1]; exact c1 p hp
  · rw [(hs (12, 0) 58 (by simp)).1]; exact c2
  · rw [(hs (166, 0) q (by simp)).1]; exact (d q hq).1
  · rw [(hs (165, 0) (6 * q + k) (by simp)).1]; exact (d q hq).2 k hk
  · rw [(hs (12, 0) 71 (by simp)).1]; exact e1
  · rw [(hs (12, 0) 72 (by simp)).1]; exact e2
  · rw [(hs (12, 0) 73 (by simp)).1]; exact e3
  · rw [(hs (12, 0) 74 (by simp)).1]; exact e4
noncomputable def nPrice (A : dA) (w v : Int) : dA := @ite _ ((0 ≤ w ∧ w ≤ 6) ∧ 0 ≤ v ∧ v ≤ 99) (Classical.propDecidable _) (wPr A w.toNat v.toNat) A
theorem z_price {A : dA} {S : dS} {M : xM} (h : mZ M A S) {w v : Int} (hw : r32 w) (hv : r32 v) : zR (fX12_price [.inr (.inr (12, 0)), .inl (iZ (w)), .inl (iZ (v))] M) (.inl (bP ((0 ≤ w ∧ w ≤ 6) ∧ 0 ≤ v ∧ v ≤ 99))) (nPrice A w v) S := by
  obtain ⟨hQ, hS, hO, hF⟩ := h
  unfold nPrice
  by_cases c1 : 0 ≤ w ∧ w ≤ 6
  · by_cases c2 : 0 ≤ v ∧ v ≤ 99
    · rw [bP_t ⟨c1, c2⟩, if_pos ⟨c1, c2⟩]
      obtain ⟨w, rfl⟩ : ∃ n : Nat, w = n := ⟨w.toNat, by omega⟩
      obtain ⟨v, rfl⟩ : ∃ n : Nat, v = n := ⟨v.toNat, by omega⟩
      have enw : ((w : Int)).toNat = w := by omega
      have env : ((v : Int)).toNat = v := by omega
      rw [enw, env]
      have hs : xSm (fun r j => (r = (12, 0) ∧ j = 31) ∨ r = (108, 0) ∨ r = (109, 0) ∨ r = (159, 0)) M (xpI (xpI M (108, 0) w (iZ v)) (12, 0) 31 (iZ 0)) := (xSm.rf.pI (.inr (.inl rfl))).pI (.inl ⟨rfl, rfl⟩)
      have hA : mA (xpI (xpI M (108, 0) w (iZ v)) (12, 0) 31 (iZ 0)) (wPr A w v) := by
        obtain ⟨⟨o1, o2, o3, o4, o5⟩, b, c, d, e, f, g, i⟩ := hQ.A
        refine ⟨⟨o1, o2, o3, o4, fun k hk => ?_⟩, ?_, ?_, fun k hk => ?_, fun k hk => ?_, fun k hk => ?_, fun k hk => ?_, fun k hk => ?_⟩
        · show (if k = w then v else aPr A k) ≤ 99
          split
          · omega
          · exact o5 k hk
        · rw [(hs (12, 0) 2 (by simp)).1]; exact b
        · rw [(hs (12, 0) 3 (by simp)).1]; exact c
        · rw [(hs (100, 0) k (by simp)).1]; exact d k hk
        · rw [(hs (104, 0) k (by simp)).1, (hs (105, 0) k (by simp)).1, (hs (106, 0) k (by simp)).1, (hs (107, 0) k (by simp)).1]; exact e k hk
        · show _ = iZ ((if k = w then v else aPr A k : Nat) : Int)
          rw [xI_pI_ne (by decide), xI_pI]
          by_cases ek : k = w
          · rw [if_pos ⟨rfl, ek⟩, if_pos ek]
          · rw [if_neg (fun z => ek z.2), if_neg ek]; exact f k hk
        · rw [xI_pI_ne (by decide), xI_pI_ne (by decide)]; exact g k hk
        · rw [xI_pI_ne (by decide), xI_pI_ne (by decide)]; exact i k hk
      refine ⟨_, ?_, hQ.re rfl rfl hs (by rw [xI_pI, if_pos ⟨rfl, rfl⟩]) hA, hS.re rfl hs, hO, hF⟩
      show xfix gX12_price (0, [some (.inr (.inr (12, 0))), some (.inl (iZ (w))), some (.inl (iZ (v)))], [], M) = _; rw [xfix_unf, sX12_price_0]
      simp (disch := omega) only [xk_none, xk_inl, xk_inr, xk_ite, xri_v, xrl_v, xrv_v, xb_z0, xb_z1, xb_b2, if_true, if_false, ite_true, ite_false, iZ_lit, iZ_m1, iZ_m99, iZ_m8, iZ_add, iZ_sub, iZ_mul, iZ_neg, nz0, nzi, iZ_lt, iZ_le, iZ_inj, b2_z, b2_o, ite_bPz, ite_bPo, xb_bP, iZ_xin, if_pos, ite_self, ↓reduceIte, Int.reduceAdd, Int.reduceSub, Int.reduceMul, Int.reduceNeg, Int.reduceLT, Int.reduceLE, if_neg, k_isIn, c1, c2, and_self, iZ_clampN]
    · rw [bP_f (fun z => c2 z.2), if_neg (fun z => c2 z.2)]
      refine ⟨M, ?_, hQ, hS, hO, hF⟩
      show xfix gX12_price (0, [some (.inr (.inr (12, 0))), some (.inl (iZ (w))), some (.inl (iZ (v)))], [], M) = _; rw [xfix_unf, sX12_price_0]
      simp (disch := omega) only [xk_none, xk_inl, xk_inr, xk_ite, xri_v, xrl_v, xrv_v, xb_z0, xb_z1, xb_b2, if_true, if_false, ite_true, ite_false, iZ_lit, iZ_m1, iZ_m99, iZ_m8, iZ_add, iZ_sub, iZ_mul, iZ_neg, nz0, nzi, iZ_lt, iZ_le, iZ_inj, b2_z, b2_o, ite_bPz, ite_bPo, xb_bP, iZ_xin, if_pos, ite_self, ↓reduceIte, Int.reduceAdd, Int.reduceSub, Int.reduceMul, Int.reduceNeg, Int.reduceLT, Int.reduceLE, if_neg, k_isIn, c1, c2, and_self]
  · rw [bP_f (fun z => c1 z.1), if_neg (fun z => c1 z.1)]
    refine ⟨M, ?_, hQ, hS, hO, hF⟩
    show xfix gX12_price (0, [some (.inr (.inr (12, 0))), some (.inl (iZ (w))), some (.inl (iZ (v)))], [], M) = _; rw [xfix_unf, sX12_price_0]
    simp (disch := omega) only [xk_none, xk_inl, xk_inr, xk_ite, xri_v, xrl_v, xrv_v, xb_z0, xb_z1, xb_b2, if_true, if_false, ite_true, ite_false, iZ_lit, iZ_m1, iZ_m99, iZ_m8, iZ_add, iZ_sub, iZ_mul, iZ_neg, nz0, nzi, iZ_lt, iZ_le, iZ_inj, b2_z, b2_o, ite_bPz, ite_bPo, xb_bP, iZ_xin, if_pos, ite_self, ↓reduceIte, Int.reduceAdd, Int.reduceSub, Int.reduceMul, Int.reduceNeg, Int.reduceLT, Int.reduceLE, if_neg, k_isIn, c1]
noncomputable def nBent (A : dA) (p : Int) (b : Bool) : dA := @ite _ (vP A p ∧ aBent A p.toNat ≠ b) (Classical.propDecidable _) (wBn A p.toNat b) A
theorem z_bent {A : dA} {S : dS} {M : xM} (h : mZ M A S) {p : Int} (hp : r32 p) (b : Bool) : zR (fX12_bent [.inr (.inr (12, 0)), .inl (iZ (p)), .inl (bP ((b = true)))] M) (.inl (bP (vP A p ∧ aBent A p.toNat ≠ b))) (nBent A p b) S := by
  obtain ⟨hQ, hS, hO, hF⟩ := h
  have hP9 := hQ.A.ok.P
  unfold nBent
  by_cases c1 : vP A p
  · obtain ⟨p, rfl, h1⟩ := c1.n
    have enp : ((p : Int)).toNat = p := by omega
    rw [enp]
    have f := hQ.A.bent (p := p) (by omega)
    by_cases c2 : aBent A p = b
    · rw [bP_f (c := vP A (p : Int) ∧ aBent A p ≠ b) (fun z => z.2 c2), if_neg (fun z => z.2 c2)]
      refine ⟨M, ?_, hQ, hS, hO, hF⟩
      rw [c2] at f
      show xfix gX12_bent (0, [some (.inr (.inr (12, 0))), some (.inl (iZ (p))), some (.inl (bP ((b = true))))], [], M) = _; rw [xfix_unf, sX12_bent_0]
      simp (disch := omega) only [xk_none, xk_inl, xk_inr, xk_ite, xri_v, xrl_v, xrv_v, xb_z0, xb_z1, xb_b2, if_true, if_false, ite_true, ite_false, iZ_lit, iZ_m1, iZ_m99, iZ_m8, iZ_add, iZ_sub, iZ_mul, iZ_neg, nz0, nzi, iZ_lt, iZ_le, iZ_inj, b2_z, b2_o, ite_bPz, ite_bPo, xb_bP, iZ_xin, if_pos, ite_self, ↓reduceIte, Int.reduceAdd, Int.reduceSub, Int.reduceMul, Int.reduceNeg, Int.reduceLT, Int.reduceLE, if_neg, k_isPart hQ.A hp, c1, iZ_clampN, f]
    · rw [bP_t (c := vP A (p : Int) ∧ aBent A p ≠ b) ⟨c1, c2⟩, if_pos ⟨c1, c2⟩]
      have hs : xSm (fun r j => (r = (12, 0) ∧ j = 31) ∨ r = (108, 0) ∨ r = (109, 0) ∨ r = (159, 0)) M (xpI (xpI M (109, 0) p (bP (b = true))) (12, 0) 31 (iZ 0)) := (xSm.rf.pI (.inr (.inr (.inl rfl)))).pI (.inl ⟨rfl, rfl⟩)
      have hA : mA (xpI (xpI M (109, 0) p (bP (b = true))) (12, 0) 31 (iZ 0)) (wBn A p b) := by
        obtain ⟨o, b', c, d, e, f, g, i⟩ := hQ.A
        refine ⟨o, ?_, ?_, fun k hk => ?_, fun k hk => ?_, fun k hk => ?_, fun k hk => ?_, fun k hk => ?_⟩
        · rw [(hs (12, 0) 2 (by simp)).1]; exact b'
        · rw [(hs (12, 0) 3 (by simp)).1]; exact c
        · rw [(hs (100, 0) k (by simp)).1]; exact d k hk
        · rw [(hs (104, 0) k (by simp)).1, (hs (105, 0) k (by simp)).1, (hs (106, 0) k (by simp)).1, (hs (107, 0) k (by simp)).1]; exact e k hk
        · rw [xI_pI_ne (by decide), xI_pI_ne (by decide)]; exact f k hk
        · show _ = bP ((if k = p then b else aBent A k) = true)
          rw [xI_pI_ne (by decide), xI_pI]
          by_cases ek : k = p
          · rw [if_pos ⟨rfl, ek⟩, if_pos ek]
          · rw [if_neg (fun z => ek z.2), if_neg ek]; exact g k hk
        · rw [xI_pI_ne (by decide), xI_pI_ne (by decide)]; exact i k hk
      refine ⟨_, ?_, hQ.re rfl rfl hs (by rw [xI_pI, if_pos ⟨rfl, rfl⟩]) hA, hS.re rfl hs, hO, hF⟩
      have c3 : ¬ bP (aBent A p = true) = bP (b = true) := fun z => c2 (bP_ne.mp z)
      show xfix gX12_bent (0, [some (.inr (.inr (12, 0))), some (.inl (iZ (p))), some (.inl (bP ((b = true))))], [], M) = _; rw [xfix_unf, sX12_bent_0]
      simp (disch := omega) only [xk_none, xk_inl, xk_inr, xk_ite, xri_v, xrl_v, xrv_v, xb_z0, xb_z1, xb_b2, if_true, if_false, ite_true, ite_false, iZ_lit, iZ_m1, iZ_m99, iZ_m8, iZ_add, iZ_sub, iZ_mul, iZ_neg, nz0, nzi, iZ_lt, iZ_le, iZ_inj, b2_z, b2_o, ite_bPz, ite_bPo, xb_bP, iZ_xin, if_pos, ite_self, ↓reduceIte, Int.reduceAdd, Int.reduceSub, Int.reduceMul, Int.reduceNeg, Int.reduceLT, Int.reduceLE, if_neg, k_isPart hQ.A hp, c1, iZ_clampN, f, if_neg c3]
  · rw [bP_f (c := vP A p ∧ aBent A p.toNat ≠ b) (fun z => c1 z.1), if_neg (fun z => c1 z.1)]
    refine ⟨M, ?_, hQ, hS, hO, hF⟩
    show xfix gX12_bent (0, [some (.inr (.inr (12, 0))), some (.inl (iZ (p))), some (.inl (bP ((b = true))))], [], M) = _; rw [xfix_unf, sX12_bent_0]
    simp (disch := omega) only [xk_none, xk_inl, xk_inr, xk_ite, xri_v, xrl_v, xrv_v, xb_z0, xb_z1, xb_b2, if_true, if_false, ite_true, ite_false, iZ_lit, iZ_m1, iZ_m99, iZ_m8, iZ_add, iZ_sub, iZ_mul, iZ_neg, nz0, nzi, iZ_lt, iZ_le, iZ_inj, b2_z, b2_o, ite_bPz, ite_bPo, xb_bP, iZ_xin, if_pos, ite_self, ↓reduceIte, Int.reduceAdd, Int.reduceSub, Int.reduceMul, Int.reduceNeg, Int.reduceLT, Int.reduceLE, if_neg, k_isPart hQ.A hp, c1]
noncomputable def nSwollen (A : dA) (p w : Int) (b : Bool) : dA := @ite _ (vP A p ∧ vW w ∧ aSw A (6 * p.toNat + w.toNat) ≠ b) (Classical.propDecidable _) (wSw A (6 * p.toNat + w.toNat) b) A
theorem z_swollen {A : dA} {S : dS} {M : xM} (h : mZ M A S) {p w : Int} (hp : r32 p) (hw : r32 w) (b : Bool) : zR (fX12_swollen [.inr (.inr (12, 0)), .inl (iZ (p)), .inl (iZ (w)), .inl (bP ((b = true)))] M) (.inl (bP (vP A p ∧ vW w ∧ aSw A (6 * p.toNat + w.toNat) ≠ b))) (nSwollen A p w b) S := by
  obtain ⟨hQ, hS, hO, hF⟩ := h
  have hP9 := hQ.A.ok.P
  unfold nSwollen
  by_cases c1 : vP A p
  · by_cases c0 : vW w
    · obtain ⟨p, rfl, h1⟩ := c1.n
      obtain ⟨w, rfl, h2⟩ := c0.n
      have enp : ((p : Int)).toNat = p := by omega
      have enw : ((w : Int)).toNat = w := by omega
      rw [enp, enw]
      have f := hQ.A.sw (k := 6 * p + w) (by omega)
      have ecl : Int32.toNatClampNeg (iZ (6 * (p : Int) + w)) = 6 * p + w := by rw [iZ_clamp (by omega)]; omega
      by_cases c2 : aSw A (6 * p + w) = b
      · rw [bP_f (c := vP A (p : Int) ∧ vW (w : Int) ∧ aSw A (6 * p + w) ≠ b) (fun z => z.2.2 c2), if_neg (fun z => z.2.2 c2)]
        refine ⟨M, ?_, hQ, hS, hO, hF⟩
        rw [c2] at f
        show xfix gX12_swollen (0, [some (.inr (.inr (12, 0))), some (.inl (iZ (p))), some (.inl (iZ (w))), some (.inl (bP ((b = true))))], [], M) = _; rw [xfix_unf, sX12_swollen_0]
        simp (disch := omega) only [xk_none, xk_inl, xk_inr, xk_ite, xri_v, xrl_v, xrv_v, xb_z0, xb_z1, xb_b2, if_true, if_false, ite_true, ite_false, iZ_lit, iZ_m1, iZ_m99, iZ_m8, iZ_add, iZ_sub, iZ_mul, iZ_neg, nz0, nzi, iZ_lt, iZ_le, iZ_inj, b2_z, b2_o, ite_bPz, ite_bPo, xb_bP, iZ_xin, if_pos, ite_self, ↓reduceIte, Int.reduceAdd, Int.reduceSub, Int.reduceMul, Int.reduceNeg, Int.reduceLT, Int.reduceLE, if_neg, k_isPart hQ.A hp, k_isWay hw, c1, c0, ecl, f]
      · rw [bP_t (c := vP A (p : Int) ∧ vW (w : Int) ∧ aSw A (6 * p + w) ≠ b) ⟨c1, c0, c2⟩, if_pos ⟨c1, c0, c2⟩]
        generalize hi : 6 * p + w = i at *
        have hs : xSm (fun r j => (r = (12, 0) ∧ j = 31) ∨ r = (108, 0) ∨ r = (109, 0) ∨ r = (159, 0)) M (xpI (xpI M (159, 0) i (bP (b = true))) (12, 0) 31 (iZ 0)) := (xSm.rf.pI (.inr (.inr (.inr rfl)))).pI (.inl ⟨rfl, rfl⟩)
        have hA : mA (xpI (xpI M (159, 0) i (bP (b = true))) (12, 0) 31 (iZ 0)) (wSw A i b) := by
          obtain ⟨o, b', c, d, e, f, g, i'⟩ := hQ.A
          refine ⟨o, ?_, ?_, fun k hk => ?_, fun k hk => ?_, fun k hk => ?_, fun k hk => ?_, fun k hk => ?_⟩
          · rw [(hs (12, 0) 2 (by simp)).1]; exact b'
          · rw [(hs (12, 0) 3 (by simp)).1]; exact c
          · rw [(hs (100, 0) k (by simp)).1]; exact d k hk
          · rw [(hs (104, 0) k (by simp)).1, (hs (105, 0) k (by simp)).1, (hs (106, 0) k (by simp)).1, (hs (107, 0) k (by simp)).1]; exact e k hk
          · rw [xI_pI_ne (by decide), xI_pI_ne (by decide)]; exact f k hk
          · rw [xI_pI_ne (by decide), xI_pI_ne (by decide)]; exact g k hk
          · show _ = bP ((if k = i then b else aSw A k) = true)
            rw [xI_pI_ne (by decide), xI_pI]
            by_cases ek : k = i
            · rw [if_pos ⟨rfl, ek⟩, if_pos ek]
            · rw [if_neg (fun z => ek z.2), if_neg ek]; exact i' k hk
        refine ⟨_, ?_, hQ.re rfl rfl hs (by rw [xI_pI, if_pos ⟨rfl, rfl⟩]) hA, hS.re rfl hs, hO, hF⟩
        have c3 : ¬ bP (aSw A i = true) = bP (b = true) := fun z => c2 (bP_ne.mp z)
        show xfix gX12_swollen (0, [some (.inr (.inr (12, 0))), some (.inl (iZ (p))), some (.inl (iZ (w))), some (.inl (bP ((b = true))))], [], M) = _; rw [xfix_unf, sX12_swollen_0]
        simp (disch := omega) only [xk_none, xk_inl, xk_inr, xk_ite, xri_v, xrl_v, xrv_v, xb_z0, xb_z1, xb_b2, if_true, if_false, ite_true, ite_false, iZ_lit, iZ_m1, iZ_m99, iZ_m8, iZ_add, iZ_sub, iZ_mul, iZ_neg, nz0, nzi, iZ_lt, iZ_le, iZ_inj, b2_z, b2_o, ite_bPz, ite_bPo, xb_bP, iZ_xin, if_pos, ite_self, ↓reduceIte, Int.reduceAdd, Int.reduceSub, Int.reduceMul, Int.reduceNeg, Int.reduceLT, Int.reduceLE, if_neg, k_isPart hQ.A hp, k_isWay hw, c1, c0, ecl, f, if_neg c3]
    · rw [bP_f (c := vP A p ∧ vW w ∧ aSw A (6 * p.toNat + w.toNat) ≠ b) (fun z => c0 z.2.1), if_neg (fun z => c0 z.2.1)]
      refine ⟨M, ?_, hQ, hS, hO, hF⟩
      show xfix gX12_swollen (0, [some (.inr (.inr (12, 0))), some (.inl (iZ (p))), some (.inl (iZ (w))), some (.inl (bP ((b = true))))], [], M) = _; rw [xfix_unf, sX12_swollen_0]
      simp (disch := omega) only [xk_none, xk_inl, xk_inr, xk_ite, xri_v, xrl_v, xrv_v, xb_z0, xb_z1, xb_b2, if_true, if_false, ite_true, ite_false, iZ_lit, iZ_m1, iZ_m99, iZ_m8, iZ_add, iZ_sub, iZ_mul, iZ_neg, nz0, nzi, iZ_lt, iZ_le, iZ_inj, b2_z, b2_o, ite_bPz, ite_bPo, xb_bP, iZ_xin, if_pos, ite_self, ↓reduceIte, Int.reduceAdd, Int.reduceSub, Int.reduceMul, Int.reduceNeg, Int.reduceLT, Int.reduceLE, if_neg, k_isPart hQ.A hp, k_isWay hw, c1, c0]
  · rw [bP_f (c := vP A p ∧ vW w ∧ aSw A (6 * p.toNat + w.toNat) ≠ b) (fun z => c1 z.1), if_neg (fun z => c1 z.1)]
    refine ⟨M, ?_, hQ, hS, hO, hF⟩
    show xfix gX12_swollen (0, [some (.inr (.inr (12, 0))), some (.inl (iZ (p))), some (.inl (iZ (w))), some (.inl (bP ((b = true))))], [], M) = _; rw [xfix_unf, sX12_swollen_0]
    simp (disch := omega) only [xk_none, xk_inl, xk_inr, xk_ite, xri_v, xrl_v, xrv_v, xb_z0, xb_z1, xb_b2, if_true, if_false, ite_true, ite_false, iZ_lit, iZ_m1, iZ_m99, iZ_m8, iZ_add, iZ_sub, iZ_mul, iZ_neg, nz0, nzi, iZ_lt, iZ_le, iZ_inj, b2_z, b2_o, ite_bPz, ite_bPo, xb_bP, iZ_xin, if_pos, ite_self, ↓reduceIte, Int.reduceAdd, Int.reduceSub, Int.reduceMul, Int.reduceNeg, Int.reduceLT, Int.reduceLE, if_neg, k_isPart hQ.A hp, c1]
