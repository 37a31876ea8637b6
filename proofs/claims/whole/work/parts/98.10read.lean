/-! the class: reading, token by token -/
/-- the tape stands at token st, nothing wrong as yet -/
def pT (M : xM) (N : Nat) (T : Nat → Nat) (st : Nat) : Prop := cT M N T ∧ cTk M N T st ∧ st ≤ N ∧ xI M (8, 0) 2 = iZ 0 ∧ xI M (8, 0) 3 = iZ (-1)
theorem pT.sm {M M' : xM} {N st : Nat} {T : Nat → Nat} {P : xR → Nat → Prop} (h : pT M N T st) (hs : xSm P M M') (h1 : ∀ j, ¬ P (8, 0) j) (h2 : ∀ k, ¬ P (47, 0) k) : pT M' N T st := by
  obtain ⟨a, ⟨b1, b2, b3, b4, b5⟩, c, d, e⟩ := h
  have f : ∀ j, xI M' (8, 0) j = xI M (8, 0) j := fun j => (hs _ _ (h1 j)).1
  refine ⟨a.sm hs (h1 1) h2, ⟨?_, ?_, ?_, fun x y => ?_, fun x y => ?_⟩, c, ?_, ?_⟩
  · rw [f]; exact b1
  · rw [f]; exact b2
  · rw [f]; exact b3
  · rw [f]; exact b4 x y
  · rw [f]; exact b5 x y
  · rw [f]; exact d
  · rw [f]; exact e
theorem pT.same {M M' : xM} {N st : Nat} {T : Nat → Nat} {P : xR → Prop} (h : pT M N T st) (hs : xSame P M M') (h1 : ¬ P (8, 0)) (h2 : ¬ P (47, 0)) : pT M' N T st := h.sm hs.sm (fun _ => h1) (fun _ => h2)
theorem x_adv {M : xM} {N st : Nat} {T : Nat → Nat} (h : pT M N T st) : ∃ M', fX8_advance [.inr (.inr (8, 0))] M = some (none, M') ∧ xSm tpF M M' ∧ pT M' N T (adv N T st) := by
  obtain ⟨a, b, c, d, e⟩ := h
  obtain ⟨M', h1, h2, h3⟩ := x_advance a b.2.1 (tE_b c).2.1
  refine ⟨M', h1, h2, a.tp h2, h3, (adv_b c).1, ?_, ?_⟩
  · rw [(h2 _ _ (by simp)).1]; exact d
  · rw [(h2 _ _ (by simp)).1]; exact e
def cFl (M : xM) (f : Int × Nat) : Prop := xI M (8, 0) 2 = iZ f.1 ∧ xI M (8, 0) 3 = iZ (f.2 : Int)
abbrev ffF (r : xR) (j : Nat) : Prop := r = (8, 0) ∧ (j = 2 ∨ j = 3)
theorem x_refuse {M : xM} {a b : Int} : fX8_refuse [.inr (.inr (8, 0)), .inl (iZ (a)), .inl (iZ (b))] M = some (some (.inl (iZ (0))), xpI (xpI M (8, 0) 2 (iZ a)) (8, 0) 3 (iZ b)) := by
  show xfix gX8_refuse (0, [some (.inr (.inr (8, 0))), some (.inl (iZ (a))), some (.inl (iZ (b)))], [], M) = _; rw [xfix_unf, sX8_refuse_0]
  simp (disch := omega) only [xk_none, xk_inl, xk_inr, xk_ite, xri_v, xrl_v, xrv_v, xb_z0, xb_z1, xb_b2, if_true, if_false, ite_true, ite_false, iZ_lit, iZ_m1, iZ_m99, iZ_m8, iZ_add, iZ_sub, iZ_mul, iZ_neg, nz0, nzi, iZ_lt, iZ_le, iZ_inj, b2_z, b2_o, ite_bPz, ite_bPo, xb_bP, iZ_xin, if_pos, ite_self, ↓reduceIte, Int.reduceAdd, Int.reduceSub, Int.reduceMul, Int.reduceNeg, Int.reduceLT, Int.reduceLE, if_neg]
theorem x_refuseTo {M : xM} {N st : Nat} {T : Nat → Nat} (h : pT M N T st) (k : Int) : ∃ M', fX8_refuseToken [.inr (.inr (8, 0)), .inl (iZ (k))] M = some (some (.inl (iZ (0))), M') ∧ xSm ffF M M' ∧ cFl M' (k, st) := by
  have h5 := h.2.1.1
  have hr := x_refuse (M := M) (a := k) (b := (st : Int))
  refine ⟨xpI (xpI M (8, 0) 2 (iZ k)) (8, 0) 3 (iZ (st : Int)), ?_, (xSm.rf.pI (by first | exact ⟨rfl, by omega⟩ | exact .inl ⟨rfl, by omega⟩ | exact .inr (.inl rfl) | exact .inr (.inl ⟨rfl, rfl⟩) | exact .inr (.inr (.inl rfl)) | exact .inr (.inr (.inr rfl)))).pI (by first | exact ⟨rfl, by omega⟩ | exact .inl ⟨rfl, by omega⟩ | exact .inr (.inl rfl) | exact .inr (.inl ⟨rfl, rfl⟩) | exact .inr (.inr (.inl rfl)) | exact .inr (.inr (.inr rfl))), ?_, ?_⟩
  · show xfix gX8_refuseToken (0, [some (.inr (.inr (8, 0))), some (.inl (iZ (k)))], [], M) = _; rw [xfix_unf, sX8_refuseToken_0]
    simp (disch := omega) only [xk_none, xk_inl, xk_inr, xk_ite, xri_v, xrl_v, xrv_v, xb_z0, xb_z1, xb_b2, if_true, if_false, ite_true, ite_false, iZ_lit, iZ_m1, iZ_m99, iZ_m8, iZ_add, iZ_sub, iZ_mul, iZ_neg, nz0, nzi, iZ_lt, iZ_le, iZ_inj, b2_z, b2_o, ite_bPz, ite_bPo, xb_bP, iZ_xin, if_pos, ite_self, ↓reduceIte, Int.reduceAdd, Int.reduceSub, Int.reduceMul, Int.reduceNeg, Int.reduceLT, Int.reduceLE, if_neg, h5, hr]
  · rw [pR_ne (by omega), pR_eq]
  · rw [pR_eq]
theorem x_isName {M : xM} {N st : Nat} {T : Nat → Nat} (h : pT M N T st) : fX9_isName [.inr (.inr (9, 0))] M = some (some (.inl (bP (tk False N T st = 3))), M) := by
  obtain ⟨a, b, c, _⟩ := h
  have s0 := x_says (k := 0) a b c (by omega)
  have s1 := x_says (k := 1) a b c (by omega)
  have s2 := x_says (k := 2) a b c (by omega)
  rw [bP_c (tk_key (j := 0) (by omega))] at s0
  rw [bP_c (tk_key (j := 1) (by omega))] at s1
  rw [bP_c (tk_key (j := 2) (by omega))] at s2
  have sw := x_wayHere False a b c
  have hk := b.2.2.1
  have hc := ck_b N T st
  have fin : ∀ u : Int, (u = 0 ∨ u = 1) → (u = 1 ↔ tk False N T st = 4 ∨ tk False N T st = 5 ∨ tk False N T st = 6) → xfix gX9_isName (41, [some (.inr (.inr (9, 0))), none], [.inl (iZ (u))], M) = some (some (.inl (bP (tk False N T st = 3))), M) := fun u hu hv => by
    have key := tk_c (N := N) (T := T) (st := st) False
    by_cases e : ck N T st = 1
    · rw [e] at hk
      rcases hu with z | z
      · have nk : ¬ (tk False N T st = 4 ∨ tk False N T st = 5 ∨ tk False N T st = 6) := fun q => by have := hv.mpr q; omega
        have tb : tk False N T st = tW False T st (tE N T st) := tk_w e
        have tc := tW_cs False T st (tE N T st) (ck1 e).2.1
        rw [← tb] at tc
        by_cases w : tk False N T st = 3
        · rw [bP_t w]
          have sw' : fX8_wayHere [.inr (.inr (8, 0))] M = some (some (.inl (iZ (-1))), M) := by
            rw [sw]; unfold wyA; rw [if_neg (by omega)]
          rw [z]
          rw [xfix_unf, sX9_isName_41]
          simp (disch := omega) only [xk_none, xk_inl, xk_inr, xk_ite, xri_v, xrl_v, xrv_v, xb_z0, xb_z1, xb_b2, if_true, if_false, ite_true, ite_false, iZ_lit, iZ_m1, iZ_m99, iZ_m8, iZ_add, iZ_sub, iZ_mul, iZ_neg, nz0, nzi, iZ_lt, iZ_le, iZ_inj, b2_z, b2_o, ite_bPz, ite_bPo, xb_bP, iZ_xin, if_pos, ite_self, ↓reduceIte, Int.reduceAdd, Int.reduceSub, Int.reduceMul, Int.reduceNeg, Int.reduceLT, Int.reduceLE, if_neg, hk, sw']
        · rw [bP_f w]
          have tw : 20 ≤ tk False N T st ∧ tk False N T st ≤ 25 := by
            rcases tc with ⟨j, j1, _, _, j4⟩ | ⟨j1, _⟩ | ⟨i, i1, _, i3⟩ | ⟨_, _, _, i4⟩
            · omega
            · exact j1.elim
            · omega
            · omega
          have sw' : fX8_wayHere [.inr (.inr (8, 0))] M = some (some (.inl (iZ ((tk False N T st : Int) - 20))), M) := by
            rw [sw]; unfold wyA; rw [if_pos tw]
          rw [z]
          generalize tk False N T st = y at *
          rw [xfix_unf, sX9_isName_41]
          simp (disch := omega) only [xk_none, xk_inl, xk_inr, xk_ite, xri_v, xrl_v, xrv_v, xb_z0, xb_z1, xb_b2, if_true, if_false, ite_true, ite_false, iZ_lit, iZ_m1, iZ_m99, iZ_m8, iZ_add, iZ_sub, iZ_mul, iZ_neg, nz0, nzi, iZ_lt, iZ_le, iZ_inj, b2_z, b2_o, ite_bPz, ite_bPo, xb_bP, iZ_xin, if_pos, ite_self, ↓reduceIte, Int.reduceAdd, Int.reduceSub, Int.reduceMul, Int.reduceNeg, Int.reduceLT, Int.reduceLE, if_neg, hk, sw']
      · have nk := hv.mp z
        rw [bP_f (by omega), z]
        rw [xfix_unf, sX9_isName_41]
        simp (disch := omega) only [xk_none, xk_inl, xk_inr, xk_ite, xri_v, xrl_v, xrv_v, xb_z0, xb_z1, xb_b2, if_true, if_false, ite_true, ite_false, iZ_lit, iZ_m1, iZ_m99, iZ_m8, iZ_add, iZ_sub, iZ_mul, iZ_neg, nz0, nzi, iZ_lt, iZ_le, iZ_inj, b2_z, b2_o, ite_bPz, ite_bPo, xb_bP, iZ_xin, if_pos, ite_self, ↓reduceIte, Int.reduceAdd, Int.reduceSub, Int.reduceMul, Int.reduceNeg, Int.reduceLT, Int.reduceLE, if_neg, hk]
    · have : tk False N T st ≠ 3 := by
        rcases key with ⟨q, _⟩ | ⟨_, q⟩
        · exact absurd q e
        · omega
      rw [bP_f this]
      generalize ck N T st = y at *
      rw [xfix_unf, sX9_isName_41]
      simp (disch := omega) only [xk_none, xk_inl, xk_inr, xk_ite, xri_v, xrl_v, xrv_v, xb_z0, xb_z1, xb_b2, if_true, if_false, ite_true, ite_false, iZ_lit, iZ_m1, iZ_m99, iZ_m8, iZ_add, iZ_sub, iZ_mul, iZ_neg, nz0, nzi, iZ_lt, iZ_le, iZ_inj, b2_z, b2_o, ite_bPz, ite_bPo, xb_bP, iZ_xin, if_pos, ite_self, ↓reduceIte, Int.reduceAdd, Int.reduceSub, Int.reduceMul, Int.reduceNeg, Int.reduceLT, Int.reduceLE, if_neg, hk]
  by_cases e0 : tk False N T st = 4 + 0
  · rw [bP_t e0] at s0
    refine Eq.trans ?_ (fin 1 (.inr rfl) ⟨fun _ => .inl e0, fun _ => rfl⟩)
    show xfix gX9_isName (0, [some (.inr (.inr (9, 0))), none], [], M) = _; rw [xfix_unf, sX9_isName_0]
    simp (disch := omega) only [xk_none, xk_inl, xk_inr, xk_ite, xri_v, xrl_v, xrv_v, xb_z0, xb_z1, xb_b2, if_true, if_false, ite_true, ite_false, iZ_lit, iZ_m1, iZ_m99, iZ_m8, iZ_add, iZ_sub, iZ_mul, iZ_neg, nz0, nzi, iZ_lt, iZ_le, iZ_inj, b2_z, b2_o, ite_bPz, ite_bPo, xb_bP, iZ_xin, if_pos, ite_self, ↓reduceIte, Int.reduceAdd, Int.reduceSub, Int.reduceMul, Int.reduceNeg, Int.reduceLT, Int.reduceLE, if_neg, s0]
  · rw [bP_f e0] at s0
    by_cases e1 : tk False N T st = 4 + 1
    · rw [bP_t e1] at s1
      refine Eq.trans ?_ (fin 1 (.inr rfl) ⟨fun _ => .inr (.inl e1), fun _ => rfl⟩)
      show xfix gX9_isName (0, [some (.inr (.inr (9, 0))), none], [], M) = _; rw [xfix_unf, sX9_isName_0]
      simp (disch := omega) only [xk_none, xk_inl, xk_inr, xk_ite, xri_v, xrl_v, xrv_v, xb_z0, xb_z1, xb_b2, if_true, if_false, ite_true, ite_false, iZ_lit, iZ_m1, iZ_m99, iZ_m8, iZ_add, iZ_sub, iZ_mul, iZ_neg, nz0, nzi, iZ_lt, iZ_le, iZ_inj, b2_z, b2_o, ite_bPz, ite_bPo, xb_bP, iZ_xin, if_pos, ite_self, ↓reduceIte, Int.reduceAdd, Int.reduceSub, Int.reduceMul, Int.reduceNeg, Int.reduceLT, Int.reduceLE, if_neg, s0, s1]
    · rw [bP_f e1] at s1
      by_cases e2 : tk False N T st = 4 + 2
      · rw [bP_t e2] at s2
        refine Eq.trans ?_ (fin 1 (.inr rfl) ⟨fun _ => .inr (.inr e2), fun _ => rfl⟩)
        show xfix gX9_isName (0, [some (.inr (.inr (9, 0))), none], [], M) = _; rw [xfix_unf, sX9_isName_0]
        simp (disch := omega) only [xk_none, xk_inl, xk_inr, xk_ite, xri_v, xrl_v, xrv_v, xb_z0, xb_z1, xb_b2, if_true, if_false, ite_true, ite_false, iZ_lit, iZ_m1, iZ_m99, iZ_m8, iZ_add, iZ_sub, iZ_mul, iZ_neg, nz0, nzi, iZ_lt, iZ_le, iZ_inj, b2_z, b2_o, ite_bPz, ite_bPo, xb_bP, iZ_xin, if_pos, ite_self, ↓reduceIte, Int.reduceAdd, Int.reduceSub, Int.reduceMul, Int.reduceNeg, Int.reduceLT, Int.reduceLE, if_neg, s0, s1, s2]
      · rw [bP_f e2] at s2
        refine Eq.trans ?_ (fin 0 (.inl rfl) ⟨fun z => by omega, fun z => by omega⟩)
        show xfix gX9_isName (0, [some (.inr (.inr (9, 0))), none], [], M) = _; rw [xfix_unf, sX9_isName_0]
        simp (disch := omega) only [xk_none, xk_inl, xk_inr, xk_ite, xri_v, xrl_v, xrv_v, xb_z0, xb_z1, xb_b2, if_true, if_false, ite_true, ite_false, iZ_lit, iZ_m1, iZ_m99, iZ_m8, iZ_add, iZ_sub, iZ_mul, iZ_neg, nz0, nzi, iZ_lt, iZ_le, iZ_inj, b2_z, b2_o, ite_bPz, ite_bPo, xb_bP, iZ_xin, if_pos, ite_self, ↓reduceIte, Int.reduceAdd, Int.reduceSub, Int.reduceMul, Int.reduceNeg, Int.reduceLT, Int.reduceLE, if_neg, s0, s1, s2]
theorem x_pass {M : xM} {N st : Nat} {T : Nat → Nat} (h : pT M N T st) : ∃ M', (tk False N T st = 59 ∧ fX9_passSemicolon [.inr (.inr (9, 0))] M = some (some (.inl (iZ (1))), M') ∧ xSm tpF M M' ∧ pT M' N T (adv N T st)) ∨ (tk False N T st ≠ 59 ∧ fX9_passSemicolon [.inr (.inr (9, 0))] M = some (some (.inl (iZ (0))), M') ∧ xSm ffF M M' ∧ cFl M' (1, st)) := by
  have hk := h.2.1.2.2.1
  have hc := ck_b N T st
  have hn := (tk_num (N := N) (T := T) (st := st) False).2.2
  by_cases e : tk False N T st = 59
  · obtain ⟨M', a1, a2, a3⟩ := x_adv h
    refine ⟨M', .inl ⟨e, ?_, a2, a3⟩⟩
    rw [hn.mpr e] at hk
    show xfix gX9_passSemicolon (0, [some (.inr (.inr (9, 0)))], [], M) = _; rw [xfix_unf, sX9_passSemicolon_0]
    simp (disch := omega) only [xk_none, xk_inl, xk_inr, xk_ite, xri_v, xrl_v, xrv_v, xb_z0, xb_z1, xb_b2, if_true, if_false, ite_true, ite_false, iZ_lit, iZ_m1, iZ_m99, iZ_m8, iZ_add, iZ_sub, iZ_mul, iZ_neg, nz0, nzi, iZ_lt, iZ_le, iZ_inj, b2_z, b2_o, ite_bPz, ite_bPo, xb_bP, iZ_xin, if_pos, ite_self, ↓reduceIte, Int.reduceAdd, Int.reduceSub, Int.reduceMul, Int.reduceNeg, Int.reduceLT, Int.reduceLE, if_neg, hk, a1]
  · obtain ⟨M', a1, a2, a3⟩ := x_refuseTo h 1
    refine ⟨M', .inr ⟨e, ?_, a2, a3⟩⟩
    have e2 : ¬ ck N T st = 3 := fun z => e (hn.mp z)
    generalize ck N T st = y at *
    show xfix gX9_passSemicolon (0, [some (.inr (.inr (9, 0)))], [], M) = _; rw [xfix_unf, sX9_passSemicolon_0]
    simp (disch := omega) only [xk_none, xk_inl, xk_inr, xk_ite, xri_v, xrl_v, xrv_v, xb_z0, xb_z1, xb_b2, if_true, if_false, ite_true, ite_false, iZ_lit, iZ_m1, iZ_m99, iZ_m8, iZ_add, iZ_sub, iZ_mul, iZ_neg, nz0, nzi, iZ_lt, iZ_le, iZ_inj, b2_z, b2_o, ite_bPz, ite_bPo, xb_bP, iZ_xin, if_pos, ite_self, ↓reduceIte, Int.reduceAdd, Int.reduceSub, Int.reduceMul, Int.reduceNeg, Int.reduceLT, Int.reduceLE, if_neg, hk, a1]
-- words as numbers
theorem wv_pos {f : Nat → Nat} : ∀ {k : Nat}, (∀ j, j < k → isL (f j)) → 0 ≤ wv f k ∧ (0 < k → 1 ≤ wv f k)
  | 0, _ => by unfold wv; omega
  | k + 1, h => by
    have ih := (wv_pos (f := f) (k := k) (fun j hj => h j (by omega))).1
    have := h k (by omega)
    unfold isL at this
    unfold wv
    omega
theorem wv_inj {f g : Nat → Nat} : ∀ {k l : Nat}, (∀ j, j < k → isL (f j)) → (∀ j, j < l → isL (g j)) → wv f k = wv g l → k = l ∧ ∀ j, j < k → f j = g j
  | 0, 0, _, _, _ => ⟨rfl, fun j hj => by omega⟩
  | 0, l + 1, _, h2, h3 => by
    have := (wv_pos h2).2 (by omega)
    have e : wv f 0 = 0 := rfl
    omega
  | k + 1, 0, h1, _, h3 => by
    have := (wv_pos h1).2 (by omega)
    have e : wv g 0 = 0 := rfl
    omega
  | k + 1, l + 1, h1, h2, h3 => by
    have e1 : wv f (k + 1) = wv f k * 27 + ((f k : Int) - 97 + 1) := rfl
    have e2 : wv g (l + 1) = wv g l * 27 + ((g l : Int) - 97 + 1) := rfl
    have a1 := h1 k (by omega)
    have a2 := h2 l (by omega)
    unfold isL at a1 a2
    have e3 : wv f k = wv g l := by omega
    have e4 : f k = g l := by omega
    obtain ⟨i1, i2⟩ := wv_inj (fun j hj => h1 j (by omega)) (fun j hj => h2 j (by omega)) e3
    subst i1
    refine ⟨rfl, fun j hj => ?_⟩
    by_cases e : j = k
    · rw [e]; exact e4
    · exact i2 j (by omega)
theorem wv_cg {f g : Nat → Nat} : ∀ {k : Nat}, (∀ j, j < k → f j = g j) → wv f k = wv g k
  | 0, _ => rfl
  | k + 1, h => by unfold wv; rw [wv_cg (k := k) (fun j hj => h j (by omega)), h k (by omega)]
theorem wv_b {f : Nat → Nat} {k : Nat} (hk : k ≤ 6) (h : ∀ j, j < k → isL (f j)) : 0 ≤ wv f k ∧ wv f k < 2147483648 := by
  have key : ∀ m, m ≤ k → wv f m < 27 ^ m := fun m => by
    induction m with
    | zero => intro _; show (0 : Int) < 1; decide
    | succ m ih =>
      intro hm
      have a := h m (by omega)
      unfold isL at a
      have b := ih (by omega)
      have e : (27 : Int) ^ (m + 1) = 27 ^ m * 27 := Int.pow_succ 27 m
      unfold wv
      rw [e]
      omega
  refine ⟨(wv_pos h).1, Int.lt_of_lt_of_le (key k (Nat.le_refl _)) ?_⟩
  have : k = 0 ∨ k = 1 ∨ k = 2 ∨ k = 3 ∨ k = 4 ∨ k = 5 ∨ k = 6 := by omega
  rcases this with z | z | z | z | z | z | z <;> subst z <;> decide
/-- the value of a name at the token -/
theorem pT.val {M : xM} {N st : Nat} {T : Nat → Nat} (h : pT M N T st) (hc : ck N T st = 1) : xI M (8, 0) 6 = iZ (wv (fun k => T (st + k)) (tE N T st - st)) ∧ r32 (wv (fun k => T (st + k)) (tE N T st - st)) := by
  obtain ⟨⟨a1, a2⟩, a3, a4, a5⟩ := ck1 hc
  refine ⟨h.2.1.2.2.2.1 a1 a2, ?_⟩
  have := wv_b a3 a5
  unfold r32
  omega
theorem tk3_ck {N : Nat} {T : Nat → Nat} {st : Nat} {rc : Prop} (h : tk rc N T st = 3) : ck N T st = 1 := ((tk_nam rc).mpr h).1
