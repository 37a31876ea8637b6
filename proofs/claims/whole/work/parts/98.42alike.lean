/-! the class: alike, mirrored -/
/-- where a cell of a part comes to lie in its settled mirror -/
noncomputable def pmA (A : dA) (p ax o a : Nat) : Int := if a = ax then hiA A (2 ^ p) a - alg o a else alg o a - loA A (2 ^ p) a
theorem pmA_b {A : dA} {p ax o a : Nat} (hn : ∃ o, o < 512 ∧ aC A o = p) (ho : o < 512) (hp : aC A o = p) : 0 ≤ pmA A p ax o a ∧ pmA A p ax o a < 8 := by
  have h1 := (lo_is hn a).2 o ho hp
  have h2 := (hi_is hn a).2 o ho hp
  have h3 := alg_lt ho a
  obtain ⟨u, u1, u2, u3⟩ := (hi_is hn a).1
  have h4 := alg_lt u1 a
  unfold pmA
  split <;> omega
theorem pmA_inj {A : dA} {p ax o o' : Nat} (h : ∀ a, a < 3 → pmA A p ax o a = pmA A p ax o' a) : o = o' := alg_ext fun a ha => by
  have := h a ha
  unfold pmA at this
  split at this <;> omega
theorem aat_u {A : dA} {q : Nat} {X : Nat → Int} : aat A (X 0) (X 1) (X 2) = q ↔ ∃ u, u < 512 ∧ aC A u = q ∧ ∀ a, a < 3 → (alg u a : Int) = X a := by
  unfold aat
  constructor
  · intro h
    by_cases e : (0 ≤ X 0 ∧ X 0 ≤ 7) ∧ (0 ≤ X 1 ∧ X 1 ≤ 7) ∧ (0 ≤ X 2 ∧ X 2 ≤ 7)
    · rw [if_pos e] at h
      refine ⟨_, by omega, h, fa3.mpr ⟨?_, ?_, ?_⟩⟩
      · rw [alg0]; omega
      · rw [alg1]; omega
      · rw [alg2]; omega
    · rw [if_neg e] at h; omega
  · rintro ⟨u, u1, u2, u3⟩
    obtain ⟨h0, h1, h2⟩ := fa3.mp u3
    rw [alg0] at h0
    rw [alg1] at h1
    rw [alg2] at h2
    rw [if_pos (by omega), show (64 * X 2 + 8 * X 1 + X 0).toNat = u by omega]
    exact u2
theorem mir_pm {A : dA} {p q ax o a : Nat} (hax : ax < 4) (ha : a < 3) : mir ax a (trn A p ax) (alg o a) + dff A p q a = pmA A p ax o a + loA A (2 ^ q) a := by
  unfold mir trn dff pmA
  by_cases e : a = ax
  · subst e
    rw [if_pos rfl, if_neg (by omega), if_pos rfl]
    omega
  · rw [if_neg (fun z => e z.symm), if_neg e]
    omega
theorem smC_u {A : dA} {p q ax o : Nat} (hax : ax < 4) : smC A p q ax o ↔ (aC A o = p → ∃ u, u < 512 ∧ aC A u = q ∧ ∀ a, a < 3 → (alg u a : Int) = pmA A p ax o a + loA A (2 ^ q) a) := by
  unfold smC
  have := aat_u (A := A) (q := q) (X := fun a => mir ax a (trn A p ax) (alg o a) + dff A p q a)
  rw [this]
  have e : ∀ u, (∀ a, a < 3 → (alg u a : Int) = mir ax a (trn A p ax) (alg o a) + dff A p q a) ↔ ∀ a, a < 3 → (alg u a : Int) = pmA A p ax o a + loA A (2 ^ q) a := fun u =>
    ⟨fun h a ha => by rw [← mir_pm hax ha]; exact h a ha, fun h a ha => by rw [mir_pm hax ha]; exact h a ha⟩
  simp only [e]
/-- the settled sets are one -/
theorem smS_set {A : dA} {p q ax : Nat} (hax : ax < 4) (hp : ∃ o, o < 512 ∧ aC A o = p) (hq : ∃ o, o < 512 ∧ aC A o = q) : smS A p q ax ↔ ∀ c, c < 512 → ((∃ o, o < 512 ∧ aC A o = p ∧ ∀ a, a < 3 → (alg c a : Int) = pmA A p ax o a) ↔ (∃ u, u < 512 ∧ aC A u = q ∧ ∀ a, a < 3 → (alg c a : Int) = alg u a - loA A (2 ^ q) a)) := by
  have lq := lo_is hq
  unfold smS
  rw [mny_ind, mny_ind]
  constructor
  · rintro ⟨h1, h2⟩ c hc
    constructor
    · rintro ⟨o, o1, o2, o3⟩
      obtain ⟨u, u1, u2, u3⟩ := (smC_u hax).mp (h2 o o1) o2
      exact ⟨u, u1, u2, fun a ha => by have := u3 a ha; have := o3 a ha; omega⟩
    · rintro ⟨u, u1, u2, u3⟩
      refine Classical.byContradiction fun no => ?_
      have le := cn_rel (m := 512) (n := 512) (R := fun o x => ∀ a, a < 3 → (alg x a : Int) = pmA A p ax o a + loA A (2 ^ q) a) (S := fun o => aC A o = p) (T := fun x => aC A x = q ∧ x ≠ u) (fun o o1 o2 => by
        obtain ⟨x, x1, x2, x3⟩ := (smC_u hax).mp (h2 o o1) o2
        refine ⟨x, x1, ⟨x2, fun z => no ⟨o, o1, o2, fun a ha => ?_⟩⟩, x3⟩
        rw [z] at x3
        have := x3 a ha
        have := u3 a ha
        omega) (fun o o' x _ _ _ _ r1 r2 => pmA_inj (A := A) (p := p) (ax := ax) fun a ha => by
          have := r1 a ha
          have := r2 a ha
          omega)
      have := cn_rem (S := fun x => aC A x = q) u1 u2
      omega
  · intro h
    have fwd : ∀ o, o < 512 → aC A o = p → ∃ u, u < 512 ∧ aC A u = q ∧ ∀ a, a < 3 → (alg u a : Int) = pmA A p ax o a + loA A (2 ^ q) a := fun o o1 o2 => by
      obtain ⟨c, c1, c2⟩ := alg_mk (X := fun a => pmA A p ax o a) (fun a _ => pmA_b hp o1 o2)
      obtain ⟨u, u1, u2, u3⟩ := (h c c1).mp ⟨o, o1, o2, c2⟩
      exact ⟨u, u1, u2, fun a ha => by have := u3 a ha; have := c2 a ha; omega⟩
    refine ⟨?_, fun c hc => (smC_u hax).mpr fun hcp => fwd c hc hcp⟩
    have le := cn_rel (m := 512) (n := 512) (R := fun o x => ∀ a, a < 3 → (alg x a : Int) = pmA A p ax o a + loA A (2 ^ q) a) (S := fun o => aC A o = p) (T := fun x => aC A x = q) fwd (fun o o' x _ _ _ _ r1 r2 => pmA_inj (A := A) (p := p) (ax := ax) fun a ha => by
      have := r1 a ha
      have := r2 a ha
      omega)
    have ge := cn_rel (m := 512) (n := 512) (R := fun x o => ∀ a, a < 3 → (alg x a : Int) = pmA A p ax o a + loA A (2 ^ q) a) (S := fun x => aC A x = q) (T := fun o => aC A o = p) (fun u u1 u2 => by
      obtain ⟨c, c1, c2⟩ := alg_mk (X := fun a => (alg u a : Int) - loA A (2 ^ q) a) (fun a _ => by
        have := (lq a).2 u u1 u2
        have := alg_lt u1 a
        omega)
      obtain ⟨o, o1, o2, o3⟩ := (h c c1).mpr ⟨u, u1, u2, c2⟩
      exact ⟨o, o1, o2, fun a ha => by have := o3 a ha; have := c2 a ha; omega⟩) (fun x x' o _ _ _ _ r1 r2 => alg_ext fun a ha => by
      have := r1 a ha
      have := r2 a ha
      omega)
    omega
abbrev lkF (r : xR) : Prop := r = (44, 46) ∨ r = (44, 47)
theorem x_areLike {M : xM} {A : dA} {p q ax : Nat} {v : Int} (hB : cBd M 0 (aP A) (aC A)) (hF : aFl A) (hp : p < aP A) (hq : q < aP A) (hax : ax < 4) (hv : v = if ax = 3 then -1 else (ax : Int)) : ∃ M', fX7_areLike [.inr (.inr (7, 0)), .inl (iZ (p)), .inl (iZ (q)), .inl (iZ (v))] M = some (some (.inl (bP (smS A p q ax))), M') ∧ xSame lkF M M' := by
  have hP := hB.2.1
  have fp := hF p hp
  have fq := hF q hq
  have lp := lo_is fp
  have lq := lo_is fq
  have hp' := hi_is fp
  obtain ⟨M1, a1, a2, a3⟩ : ∃ M1, xfix gX7_areLike (0, [some (.inr (.inr (7, 0))), some (.inl (iZ (p))), some (.inl (iZ (q))), some (.inl (iZ (v)))], [], M) = xfix gX7_areLike (41, [some (.inr (.inr (7, 0))), none, some (.inl (iZ (q))), none], [], M1) ∧ xSame (fun r => r = (44, 46)) M M1 ∧ ∀ c, c < 512 → (sB M1 46 c = true ↔ ∃ o, o < 512 ∧ aC A o = p ∧ ∀ a, a < 3 → (alg c a : Int) = if a = ax then 7 - (alg o a : Int) else alg o a) := by
    by_cases e : ax = 3
    · rw [if_pos e] at hv
      subst hv
      obtain ⟨M1, b1, b2, b3⟩ := x_copy (M := M) (k := 46) (j := 10 * 0 + 1 + p) (by omega)
      refine ⟨M1, ?_, b2, fun c hc => ?_⟩
      · rw [xfix_unf, sX7_areLike_0]
        simp (disch := omega) only [xk_none, xk_inl, xk_inr, xk_ite, xri_v, xrl_v, xrv_v, xb_z0, xb_z1, xb_b2, if_true, if_false, ite_true, ite_false, iZ_lit, iZ_m1, iZ_m99, iZ_m8, iZ_add, iZ_sub, iZ_mul, iZ_neg, nz0, nzi, iZ_lt, iZ_le, iZ_inj, b2_z, b2_o, ite_bPz, ite_bPo, xb_bP, iZ_xin, if_pos, ite_self, ↓reduceIte, Int.reduceAdd, Int.reduceSub, Int.reduceMul, Int.reduceNeg, Int.reduceLT, Int.reduceLE, if_neg, iZ_clampN, ↓xrv_some b1]
      · rw [b3 c hc, hB.2.2 p hp c hc]
        constructor
        · intro z; exact ⟨c, hc, z, fun a ha => by rw [if_neg (by omega)]⟩
        · rintro ⟨o, o1, o2, o3⟩
          have : c = o := alg_ext fun a ha => by have := o3 a ha; rw [if_neg (by omega)] at this; omega
          rw [this]; exact o2
    · rw [if_neg e] at hv
      subst hv
      obtain ⟨M1, b1, b2, b3⟩ := x_becomeMirror (M := M) (k := 46) (j := 10 * 0 + 1 + p) (ax := ax) (by omega) (by omega)
      refine ⟨M1, ?_, b2, fun c hc => ?_⟩
      · rw [xfix_unf, sX7_areLike_0]
        simp (disch := omega) only [xk_none, xk_inl, xk_inr, xk_ite, xri_v, xrl_v, xrv_v, xb_z0, xb_z1, xb_b2, if_true, if_false, ite_true, ite_false, iZ_lit, iZ_m1, iZ_m99, iZ_m8, iZ_add, iZ_sub, iZ_mul, iZ_neg, nz0, nzi, iZ_lt, iZ_le, iZ_inj, b2_z, b2_o, ite_bPz, ite_bPo, xb_bP, iZ_xin, if_pos, ite_self, ↓reduceIte, Int.reduceAdd, Int.reduceSub, Int.reduceMul, Int.reduceNeg, Int.reduceLT, Int.reduceLE, if_neg, iZ_clampN, ↓xrv_some b1]
      · rw [b3 c hc]
        constructor
        · rintro ⟨o, o1, o2, o3⟩; exact ⟨o, o1, (hB.2.2 p hp o o1).mp o2, o3⟩
        · rintro ⟨o, o1, o2, o3⟩; exact ⟨o, o1, (hB.2.2 p hp o o1).mpr o2, o3⟩
  have mk1 : ∀ o, o < 512 → aC A o = p → ∃ c, c < 512 ∧ sB M1 46 c = true ∧ ∀ a, a < 3 → (alg c a : Int) = if a = ax then 7 - (alg o a : Int) else alg o a := fun o o1 o2 => by
    obtain ⟨c, c1, c2⟩ := alg_mk (X := fun a => if a = ax then 7 - (alg o a : Int) else alg o a) (fun a _ => by
      have := alg_lt o1 a
      split <;> omega)
    exact ⟨c, c1, (a3 c c1).mpr ⟨o, o1, o2, c2⟩, c2⟩
  obtain ⟨L, eL⟩ : ∃ L : Nat → Int, L = fun a => if a = ax then 7 - hiA A (2 ^ p) a else (loA A (2 ^ p) a : Int) := ⟨_, rfl⟩
  obtain ⟨M2, c1, c2, c3⟩ := x_settle (M := M1) (k := 46) (L := L) (by
      obtain ⟨o, o1, o2⟩ := fp
      obtain ⟨c, c1, c2, _⟩ := mk1 o o1 o2
      exact ⟨c, c1, c2⟩) (fun a ha => by
      rw [eL]
      dsimp only
      by_cases e : a = ax
      · rw [if_pos e]
        obtain ⟨⟨o, o1, o2, o3⟩, h2⟩ := hp' a
        refine ⟨?_, fun c hc hs => ?_⟩
        · obtain ⟨c, c1, c2, c3⟩ := mk1 o o1 o2
          have := c3 a ha
          rw [if_pos e] at this
          exact ⟨c, c1, c2, by omega⟩
        · obtain ⟨u, u1, u2, u3⟩ := (a3 c hc).mp hs
          have := u3 a ha
          rw [if_pos e] at this
          have := h2 u u1 u2
          omega
      · rw [if_neg e]
        obtain ⟨⟨o, o1, o2, o3⟩, h2⟩ := lp a
        refine ⟨?_, fun c hc hs => ?_⟩
        · obtain ⟨c, c1, c2, c3⟩ := mk1 o o1 o2
          have := c3 a ha
          rw [if_neg e] at this
          exact ⟨c, c1, c2, by omega⟩
        · obtain ⟨u, u1, u2, u3⟩ := (a3 c hc).mp hs
          have := u3 a ha
          rw [if_neg e] at this
          have := h2 u u1 u2
          omega)
  have w2 : ∀ c, c < 512 → (sB M2 46 c = true ↔ ∃ o, o < 512 ∧ aC A o = p ∧ ∀ a, a < 3 → (alg c a : Int) = pmA A p ax o a) := fun c hc => by
    rw [c3 c hc]
    constructor
    · rintro ⟨m, m1, m2, m3⟩
      obtain ⟨o, o1, o2, o3⟩ := (a3 m m1).mp m2
      refine ⟨o, o1, o2, fun a ha => ?_⟩
      have h1 := m3 a ha
      have h2 := o3 a ha
      rw [eL] at h1
      dsimp only at h1
      unfold pmA
      by_cases e : a = ax
      · rw [if_pos e] at h1 h2 ⊢; omega
      · rw [if_neg e] at h1 h2 ⊢; omega
    · rintro ⟨o, o1, o2, o3⟩
      obtain ⟨m, m1, m2, m3⟩ := mk1 o o1 o2
      refine ⟨m, m1, m2, fun a ha => ?_⟩
      have h1 := m3 a ha
      have h2 := o3 a ha
      rw [eL]
      dsimp only
      unfold pmA at h2
      by_cases e : a = ax
      · rw [if_pos e] at h1 h2 ⊢; omega
      · rw [if_neg e] at h1 h2 ⊢; omega
  obtain ⟨M3, d1, d2, d3⟩ := x_copy (M := M2) (k := 47) (j := 10 * 0 + 1 + q) (by omega)
  have q3 : ∀ c, c < 512 → (sB M3 47 c = true ↔ aC A c = q) := fun c hc => by
    rw [d3 c hc, sB_same c2 (by simp; omega), sB_same a2 (by simp; omega)]
    exact hB.2.2 q hq c hc
  obtain ⟨M4, e1, e2, e3⟩ := x_settle (M := M3) (k := 47) (L := fun a => (loA A (2 ^ q) a : Int)) (by
      obtain ⟨o, o1, o2⟩ := fq
      exact ⟨o, o1, (q3 o o1).mpr o2⟩) (fun a ha => by
      obtain ⟨⟨o, o1, o2, o3⟩, h2⟩ := lq a
      exact ⟨⟨o, o1, (q3 o o1).mpr o2, o3⟩, fun c hc hs => h2 c hc ((q3 c hc).mp hs)⟩)
  have si := x_isSame (M := M4) (k := 46) (j := 47)
  refine ⟨M4, ?_, (((a2.wk fun r z => .inl z).tr (c2.wk fun r z => .inl z)).tr (d2.wk fun r z => .inr z)).tr (e2.wk fun r z => .inr z)⟩
  have key : (∀ c, c < 512 → sB M4 46 c = sB M4 47 c) ↔ smS A p q ax := by
    rw [smS_set hax fp fq]
    have eqb : ∀ x y : Bool, x = y ↔ (x = true ↔ y = true) := by decide
    constructor
    · intro h c hc
      have := (eqb _ _).mp (h c hc)
      rw [sB_same e2 (by simp), sB_same d2 (by simp), w2 c hc, e3 c hc] at this
      rw [this]
      constructor
      · rintro ⟨u, u1, u2, u3⟩; exact ⟨u, u1, (q3 u u1).mp u2, fun a ha => by have := u3 a ha; dsimp only at this; omega⟩
      · rintro ⟨u, u1, u2, u3⟩; exact ⟨u, u1, (q3 u u1).mpr u2, fun a ha => by have := u3 a ha; dsimp only; omega⟩
    · intro h c hc
      rw [eqb, sB_same e2 (by simp), sB_same d2 (by simp), w2 c hc, e3 c hc, h c hc]
      constructor
      · rintro ⟨u, u1, u2, u3⟩; exact ⟨u, u1, (q3 u u1).mpr u2, fun a ha => by have := u3 a ha; dsimp only; omega⟩
      · rintro ⟨u, u1, u2, u3⟩; exact ⟨u, u1, (q3 u u1).mp u2, fun a ha => by have := u3 a ha; dsimp only at this; omega⟩
  rw [bP_c key] at si
  show xfix gX7_areLike (0, [some (.inr (.inr (7, 0))), some (.inl (iZ (p))), some (.inl (iZ (q))), some (.inl (iZ (v)))], [], M) = _
  rw [a1]
  clear key a1 a3 mk1 c3 w2 q3 e3 d3 lp lq hp' eL
  rw [xfix_unf, sX7_areLike_41]
  simp (disch := omega) only [xk_none, xk_inl, xk_inr, xk_ite, xri_v, xrl_v, xrv_v, xb_z0, xb_z1, xb_b2, if_true, if_false, ite_true, ite_false, iZ_lit, iZ_m1, iZ_m99, iZ_m8, iZ_add, iZ_sub, iZ_mul, iZ_neg, nz0, nzi, iZ_lt, iZ_le, iZ_inj, b2_z, b2_o, ite_bPz, ite_bPo, xb_bP, iZ_xin, if_pos, ite_self, ↓reduceIte, Int.reduceAdd, Int.reduceSub, Int.reduceMul, Int.reduceNeg, Int.reduceLT, Int.reduceLE, if_neg, ↓xrv_some c1, iZ_clampN, ↓xrv_some d1, ↓xrv_some e1, ↓xri_some si]

theorem x_goesInMirrored {M : xM} {A : dA} {p ax : Nat} (hB : cBd M 0 (aP A) (aC A)) (hA : aOk A) (hF : aFl A) (hall : ∀ c, c < 512 → (sB M 0 c = true ↔ aC A c ≠ -1)) (hp : p < aP A) (hax : ax < 3) : ∃ M', fX7_goesInMirrored [.inr (.inr (7, 0)), .inl (iZ (p)), .inl (iZ (ax))] M = some (some (.inl (bP (¬ smS A p p ax ∧ ∀ c, c < 512 → mrC A p ax c))), M') ∧ xSame lkF M M' := by
  have hP := hB.2.1
  have fp := hF p hp
  obtain ⟨M1, a1, a2⟩ := x_areLike (M := M) (p := p) (q := p) (ax := ax) (v := (ax : Int)) hB hF hp hp (by omega) (by rw [if_neg (by omega)])
  by_cases y : smS A p p ax
  · refine ⟨M1, ?_, a2⟩
    rw [bP_t y] at a1
    rw [bP_f (fun z => z.1 y)]
    show xfix gX7_goesInMirrored (0, [some (.inr (.inr (7, 0))), some (.inl (iZ (p))), some (.inl (iZ (ax))), none, none, none], [], M) = _; rw [xfix_unf, sX7_goesInMirrored_0]
    simp (disch := omega) only [xk_none, xk_inl, xk_inr, xk_ite, xri_v, xrl_v, xrv_v, xb_z0, xb_z1, xb_b2, if_true, if_false, ite_true, ite_false, iZ_lit, iZ_m1, iZ_m99, iZ_m8, iZ_add, iZ_sub, iZ_mul, iZ_neg, nz0, nzi, iZ_lt, iZ_le, iZ_inj, b2_z, b2_o, ite_bPz, ite_bPo, xb_bP, iZ_xin, if_pos, ite_self, ↓reduceIte, Int.reduceAdd, Int.reduceSub, Int.reduceMul, Int.reduceNeg, Int.reduceLT, Int.reduceLE, if_neg, ↓xri_some a1]
  · rw [bP_f y] at a1
    have body : ∀ c, c < 512 → (sB M1 (10 * 0 + 1 + p) c = true ↔ aC A c = p) := fun c hc => by
      rw [sB_same a2 (by simp [lkF]; omega)]
      exact hB.2.2 p hp c hc
    have hne : ∃ o, o < 512 ∧ sB M1 (10 * 0 + 1 + p) o = true := by
      obtain ⟨o, o1, o2⟩ := fp
      exact ⟨o, o1, (body o o1).mpr o2⟩
    have hs := x_shadow (M := M1) (k := 10 * 0 + 1 + p) hax
    obtain ⟨F, F8, F1, F2⟩ := x_lowSh (M := M1) (f := sB M1 (10 * 0 + 1 + p)) (a := ax) hne
    obtain ⟨H, H8, H1, H2⟩ := x_highSh (M := M1) (f := sB M1 (10 * 0 + 1 + p)) (a := ax) hne
    have FL : (F : Int) = loA A (2 ^ p) ax := (lo_is fp ax).un ⟨by
      obtain ⟨o, o1, o2, o3⟩ := F1.1
      exact ⟨o, o1, (body o o1).mp o2, o3⟩, fun o o1 o2 => F1.2 o o1 ((body o o1).mpr o2)⟩ |>.symm
    have HL : (H : Int) = hiA A (2 ^ p) ax := (hi_is fp ax).un ⟨by
      obtain ⟨o, o1, o2, o3⟩ := H1.1
      exact ⟨o, o1, (body o o1).mp o2, o3⟩, fun o o1 o2 => H1.2 o o1 ((body o o1).mpr o2)⟩ |>.symm
    obtain ⟨M2, b1, b2, b3⟩ := x_becomeMirror (M := M1) (k := 46) (j := 10 * 0 + 1 + p) (ax := ax) (by omega) hax
    have s2 : xSame lkF M M2 := a2.tr (b2.wk fun r z => .inl z)
    -- the steps back
    obtain ⟨B, eB⟩ : ∃ B : Int, B = (F : Int) + H - 7 := ⟨_, rfl⟩
    obtain ⟨w, ew⟩ : ∃ w : Nat, w = if 0 < B then 2 * ax else 2 * ax + 1 := ⟨_, rfl⟩
    have w5 : w < 6 := by rw [ew]; split <;> omega
    obtain ⟨N, eN⟩ : ∃ N : Nat, (N : Int) = if 0 ≤ B then B else -B := ⟨(if 0 ≤ B then B else -B).toNat, by split <;> omega⟩
    have N8 : N < 8 := by split at eN <;> omega
    obtain ⟨M3, d1, d2, d3⟩ := xfor_M (sg := gX7_goesInMirrored) (st := fun n K => (60, [some (.inr (.inr (7, 0))), some (.inl (iZ (p))), some (.inl (iZ (ax))), none, some (.inl (iZ (B))), some (.inl (iZ (n)))], [], K)) (I := fun n K => xSame (fun r => r = (44, 46)) M2 K ∧ ∀ c, c < 512 → (sB K 46 c = true ↔ tsf (fun o => sB M2 46 o = true) (fun a => (n : Int) * stp w a) c)) (n := N) (fun n K hn hI => by
      obtain ⟨K', e1, e2, e3⟩ := x_step (M := K) (k := 46) w5
      refine ⟨K', ?_, hI.1.tr e2, st_more w5 hI.2 e3⟩
      have ab := x_abs (M := K) (a := B) (by omega)
      rw [← eN] at ab
      rw [nS]
      have hI2 := hI.1
      clear hI e3 b3 F1 H1 body hall eN FL HL a1 hs F2 H2
      by_cases z : 0 < B
      · rw [if_pos z] at ew
        have ew2 : 2 * (ax : Int) = (w : Int) := by omega
        rw [xfix_unf, sX7_goesInMirrored_60]
        simp (disch := omega) only [xk_none, xk_inl, xk_inr, xk_ite, xri_v, xrl_v, xrv_v, xb_z0, xb_z1, xb_b2, if_true, if_false, ite_true, ite_false, iZ_lit, iZ_m1, iZ_m99, iZ_m8, iZ_add, iZ_sub, iZ_mul, iZ_neg, nz0, nzi, iZ_lt, iZ_le, iZ_inj, b2_z, b2_o, ite_bPz, ite_bPo, xb_bP, iZ_xin, if_pos, ite_self, ↓reduceIte, Int.reduceAdd, Int.reduceSub, Int.reduceMul, Int.reduceNeg, Int.reduceLT, Int.reduceLE, if_neg, ↓xri_some ab, ew2, ↓xrv_some e1]
      · rw [if_neg z] at ew
        have ew2 : 2 * (ax : Int) + 1 = (w : Int) := by omega
        rw [xfix_unf, sX7_goesInMirrored_60]
        simp (disch := omega) only [xk_none, xk_inl, xk_inr, xk_ite, xri_v, xrl_v, xrv_v, xb_z0, xb_z1, xb_b2, if_true, if_false, ite_true, ite_false, iZ_lit, iZ_m1, iZ_m99, iZ_m8, iZ_add, iZ_sub, iZ_mul, iZ_neg, nz0, nzi, iZ_lt, iZ_le, iZ_inj, b2_z, b2_o, ite_bPz, ite_bPo, xb_bP, iZ_xin, if_pos, ite_self, ↓reduceIte, Int.reduceAdd, Int.reduceSub, Int.reduceMul, Int.reduceNeg, Int.reduceLT, Int.reduceLE, if_neg, ↓xri_some ab, ew2, ↓xrv_some e1]) (a := 0) (M := M2) (by omega) ⟨xSame.rf, fun c hc => (tsf_0 (S := fun o => sB M2 46 o = true) (L := fun a => ((0 : Nat) : Int) * stp w a) hc (fun a ha => by simp)).symm⟩
    have s3 : xSame lkF M M3 := s2.tr (d2.wk fun r z => .inl z)
    obtain ⟨M4, g1, g2, g3⟩ := x_copy (M := M3) (k := 47) (j := 0) (by omega)
    obtain ⟨M5, h1, h2, h3⟩ := x_drop (M := M4) (k := 47) (j := 10 * 0 + 1 + p) (by omega)
    have mt := x_meets (M := M5) (k := 46) (j := 47)
    have s5 : xSame lkF M M5 := (s3.tr (g2.wk fun r z => .inr z)).tr (h2.wk fun r z => .inr z)
    have NB : ∀ a, a < 3 → (N : Int) * stp w a = if a = ax then B else 0 := fun a ha => by
      rw [stp_n w5 ha]
      by_cases z : 0 < B
      · rw [if_pos z] at ew
        rw [if_pos (by omega)] at eN
        by_cases e : a = ax
        · rw [if_pos (by omega), if_pos e, if_pos (by omega)]; omega
        · rw [if_neg (by omega), if_neg e]
      · rw [if_neg z] at ew
        have eN2 : (N : Int) = -B := by split at eN <;> omega
        by_cases e : a = ax
        · rw [if_pos (by omega), if_pos e, if_neg (by omega)]; omega
        · rw [if_neg (by omega), if_neg e]
    have work : ∀ c, c < 512 → (sB M5 46 c = true ↔ ∃ o, o < 512 ∧ aC A o = p ∧ ∀ a, a < 3 → (alg c a : Int) = mir ax a (trn A p ax) (alg o a)) := fun c hc => by
      rw [sB_same h2 (by simp), sB_same g2 (by simp), d3 c hc]
      have tr : trn A p ax = B + 7 := by unfold trn; rw [if_neg (by omega), ← FL, ← HL]; omega
      rw [tr]
      constructor
      · rintro ⟨m, m1, m2, m3⟩
        obtain ⟨o, o1, o2, o3⟩ := (b3 m m1).mp m2
        refine ⟨o, o1, (body o o1).mp o2, fun a ha => ?_⟩
        have q1 := m3 a ha
        have q2 := o3 a ha
        dsimp only at q1
        rw [NB a ha] at q1
        unfold mir
        by_cases e : a = ax
        · rw [if_pos e] at q1 q2; rw [if_pos e.symm]; omega
        · rw [if_neg e] at q1 q2; rw [if_neg (fun z => e z.symm)]; omega
      · rintro ⟨o, o1, o2, o3⟩
        obtain ⟨m, m1, m2⟩ := alg_mk (X := fun a => if a = ax then 7 - (alg o a : Int) else alg o a) (fun a _ => by
          have := alg_lt o1 a
          split <;> omega)
        refine ⟨m, m1, (b3 m m1).mpr ⟨o, o1, (body o o1).mpr o2, m2⟩, fun a ha => ?_⟩
        have q1 := m2 a ha
        have q2 := o3 a ha
        dsimp only
        rw [NB a ha]
        unfold mir at q2
        by_cases e : a = ax
        · rw [if_pos e] at q1 ⊢; rw [if_pos e.symm] at q2; omega
        · rw [if_neg e] at q1 ⊢; rw [if_neg (fun z => e z.symm)] at q2; omega
    have oth : ∀ c, c < 512 → (sB M5 47 c = true ↔ aC A c ≠ -1 ∧ aC A c ≠ p) := fun c hc => by
      rw [h3 c hc, g3 c hc, sB_same s3 (by simp [lkF]), sB_same g2 (by simp; omega), sB_same d2 (by simp; omega), sB_same b2 (by simp; omega), Bool.and_eq_true, hall c hc]
      have := body c hc
      constructor
      · rintro ⟨z1, z2⟩
        exact ⟨z1, fun z => by rw [this.mpr z] at z2; cases z2⟩
      · rintro ⟨z1, z2⟩
        refine ⟨z1, ?_⟩
        have : sB M1 (10 * 0 + 1 + p) c = false := by simpa using fun z => z2 (this.mp z)
        rw [this]; rfl
    have key : (∃ c, c < 512 ∧ sB M5 46 c = true ∧ sB M5 47 c = true) ↔ ¬ ∀ c, c < 512 → mrC A p ax c := by
      constructor
      · rintro ⟨c, c1, c2, c3⟩ h
        obtain ⟨o, o1, o2, o3⟩ := (work c c1).mp c2
        obtain ⟨q1, q2⟩ := (oth c c1).mp c3
        have cb := hA.C c1
        obtain ⟨r, er⟩ : ∃ r : Nat, aC A c = r := ⟨(aC A c).toNat, by omega⟩
        have at' := (aat_u (A := A) (q := r) (X := fun a => mir ax a (trn A p ax) (alg o a))).mpr ⟨c, c1, er, o3⟩
        have := h o o1 o2
        rw [at'] at this
        rw [er] at q1 q2
        exact this.elim (fun z => q1 z) (fun z => q2 z)
      · intro h
        refine Classical.byContradiction fun no => h fun o o1 o2 => ?_
        have rng := aat_le hA (mir ax 0 (trn A p ax) (alg o 0)) (mir ax 1 (trn A p ax) (alg o 1)) (mir ax 2 (trn A p ax) (alg o 2))
        by_cases e : aat A (mir ax 0 (trn A p ax) (alg o 0)) (mir ax 1 (trn A p ax) (alg o 1)) (mir ax 2 (trn A p ax) (alg o 2)) = -1
        · exact .inl e
        · obtain ⟨r, er⟩ : ∃ r : Nat, aat A (mir ax 0 (trn A p ax) (alg o 0)) (mir ax 1 (trn A p ax) (alg o 1)) (mir ax 2 (trn A p ax) (alg o 2)) = r := ⟨(aat A (mir ax 0 (trn A p ax) (alg o 0)) (mir ax 1 (trn A p ax) (alg o 1)) (mir ax 2 (trn A p ax) (alg o 2))).toNat, by omega⟩
          obtain ⟨c, c1, c2, c3⟩ := (aat_u (A := A) (q := r) (X := fun a => mir ax a (trn A p ax) (alg o a))).mp er
          refine .inr (Classical.byContradiction fun z => no ⟨c, c1, (work c c1).mpr ⟨o, o1, o2, c3⟩, (oth c c1).mpr ⟨by omega, fun zz => z ?_⟩⟩)
          rw [er, ← c2, zz]
    refine ⟨M5, ?_, s5⟩
    have fin : bP (¬ smS A p p ax ∧ ∀ c, c < 512 → mrC A p ax c) = bP (∀ c, c < 512 → mrC A p ax c) := bP_c ⟨fun z => z.2, fun z => ⟨y, z⟩⟩
    rw [fin]
    have ab := x_abs (M := M3) (a := B) (by omega)
    rw [← eN] at ab
    rw [bP_c key] at mt
    have zz : ((0 : Nat) : Int) = 0 := rfl
    rw [zz] at d1
    have fx : (F : Int) + H - 7 = B := eB.symm
    have B8 : -8 ≤ B ∧ B ≤ 8 := by omega
    have t60 : fX7_goesInMirrored [.inr (.inr (7, 0)), .inl (iZ (p)), .inl (iZ (ax))] M = xfix gX7_goesInMirrored (60, [some (.inr (.inr (7, 0))), some (.inl (iZ (p))), some (.inl (iZ (ax))), none, some (.inl (iZ (B))), some (.inl (iZ ((0 : Int))))], [], M2) := by
      clear key oth work NB d3 d1 b3 F1 H1 body hall fin mt eN ew FL HL hne
      generalize shW (sB M1 (10 * 0 + 1 + p)) ax = sw at *
      show xfix gX7_goesInMirrored (0, [some (.inr (.inr (7, 0))), some (.inl (iZ (p))), some (.inl (iZ (ax))), none, none, none], [], M) = _; rw [xfix_unf, sX7_goesInMirrored_0]
      simp (disch := omega) only [xk_none, xk_inl, xk_inr, xk_ite, xri_v, xrl_v, xrv_v, xb_z0, xb_z1, xb_b2, if_true, if_false, ite_true, ite_false, iZ_lit, iZ_m1, iZ_m99, iZ_m8, iZ_add, iZ_sub, iZ_mul, iZ_neg, nz0, nzi, iZ_lt, iZ_le, iZ_inj, b2_z, b2_o, ite_bPz, ite_bPo, xb_bP, iZ_xin, if_pos, ite_self, ↓reduceIte, Int.reduceAdd, Int.reduceSub, Int.reduceMul, Int.reduceNeg, Int.reduceLT, Int.reduceLE, if_neg, ↓xri_some a1, iZ_clampN, ↓xri_some hs, ↓xri_some F2, ↓xri_some H2, ↓xrv_some b1, fx]
    rw [t60, d1]
    clear t60 d1 key oth work NB d3 b3 F1 H1 body hall fin eN ew FL HL hne a1 hs F2 H2
    by_cases z : ∀ c, c < 512 → mrC A p ax c
    · rw [bP_f (fun q => q z)] at mt
      rw [bP_t z]
      rw [xfix_unf, sX7_goesInMirrored_60]
      simp (disch := omega) only [xk_none, xk_inl, xk_inr, xk_ite, xri_v, xrl_v, xrv_v, xb_z0, xb_z1, xb_b2, if_true, if_false, ite_true, ite_false, iZ_lit, iZ_m1, iZ_m99, iZ_m8, iZ_add, iZ_sub, iZ_mul, iZ_neg, nz0, nzi, iZ_lt, iZ_le, iZ_inj, b2_z, b2_o, ite_bPz, ite_bPo, xb_bP, iZ_xin, if_pos, ite_self, ↓reduceIte, Int.reduceAdd, Int.reduceSub, Int.reduceMul, Int.reduceNeg, Int.reduceLT, Int.reduceLE, if_neg, ↓xri_some ab, ↓xrv_some g1, iZ_clampN, ↓xrv_some h1, ↓xri_some mt]
    · rw [bP_t z] at mt
      rw [bP_f z]
      rw [xfix_unf, sX7_goesInMirrored_60]
      simp (disch := omega) only [xk_none, xk_inl, xk_inr, xk_ite, xri_v, xrl_v, xrv_v, xb_z0, xb_z1, xb_b2, if_true, if_false, ite_true, ite_false, iZ_lit, iZ_m1, iZ_m99, iZ_m8, iZ_add, iZ_sub, iZ_mul, iZ_neg, nz0, nzi, iZ_lt, iZ_le, iZ_inj, b2_z, b2_o, ite_bPz, ite_bPo, xb_bP, iZ_xin, if_pos, ite_self, ↓reduceIte, Int.reduceAdd, Int.reduceSub, Int.reduceMul, Int.reduceNeg, Int.reduceLT, Int.reduceLE, if_neg, ↓xri_some ab, ↓xrv_some g1, iZ_clampN, ↓xrv_some h1, ↓xri_some mt]
