/-! the class: what is seen -/
theorem x_hasOnLine {M : xM} {k a l c : Nat} (ha : a < 3) (hl : l < 64) (hc : c < 8) : fX7_hasOnLine [.inr (.inr (6, k)), .inl (iZ (a)), .inl (iZ (l)), .inl (iZ (c))] M = some (some (.inl (bP (sB M k (if a = 0 then 64 * (l / 8) + 8 * (l % 8) + c else if a = 1 then 64 * (l / 8) + 8 * c + l % 8 else 64 * c + 8 * (l / 8) + l % 8) = true))), M) := by
  have hu : l % 8 < 8 := by omega
  have hv : l / 8 < 8 := by omega
  have m8 : (l : Int) - (l : Int) / 8 * 8 = ((l % 8 : Nat) : Int) := by omega
  have d8 : (l : Int) / 8 = ((l / 8 : Nat) : Int) := by omega
  have dv := iZ_div (a := (l : Int)) (b := 8) (by omega) (by omega)
  generalize l % 8 = u at *
  generalize l / 8 = v at *
  have m8' : (l : Int) - (v : Int) * 8 = (u : Int) := by omega
  have gen : ∀ x y z : Nat, x < 8 → y < 8 → z < 8 → fX6_has [.inr (.inr (6, k)), .inl (iZ (x)), .inl (iZ (y)), .inl (iZ (z))] M = some (some (.inl (bP (sB M k (64 * z + 8 * y + x) = true))), M) := fun x y z hx hy hz => by
    rw [x_has (by unfold r32; omega) (by unfold r32; omega) (by unfold r32; omega)]
    have e : (64 * (z : Int) + 8 * (y : Int) + (x : Int)).toNat = 64 * z + 8 * y + x := by omega
    rw [e]
    exact rP ⟨fun q => q.2, fun q => ⟨by omega, q⟩⟩
  have : a = 0 ∨ a = 1 ∨ a = 2 := by omega
  rcases this with e | e | e <;> subst e
  · rw [if_pos rfl]
    have g := gen c u v hc hu hv
    have zz : ((0 : Nat) : Int) = 0 := rfl
    rw [zz]
    show xfix gX7_hasOnLine (0, [some (.inr (.inr (6, k))), some (.inl (iZ ((0 : Int)))), some (.inl (iZ (l))), some (.inl (iZ (c))), none, none], [], M) = _; rw [xfix_unf, sX7_hasOnLine_0]
    simp (disch := omega) only [xk_none, xk_inl, xk_inr, xk_ite, xri_v, xrl_v, xrv_v, xb_z0, xb_z1, xb_b2, if_true, if_false, ite_true, ite_false, iZ_lit, iZ_m1, iZ_m99, iZ_m8, iZ_add, iZ_sub, iZ_mul, iZ_neg, nz0, nzi, iZ_lt, iZ_le, iZ_inj, b2_z, b2_o, ite_bPz, ite_bPo, xb_bP, iZ_xin, if_pos, ite_self, ↓reduceIte, Int.reduceAdd, Int.reduceSub, Int.reduceMul, Int.reduceNeg, Int.reduceLT, Int.reduceLE, if_neg, dv, m8, m8', d8, g]
  · rw [if_neg (by omega), if_pos rfl]
    have g := gen u c v hu hc hv
    have zz : ((1 : Nat) : Int) = 1 := rfl
    rw [zz]
    show xfix gX7_hasOnLine (0, [some (.inr (.inr (6, k))), some (.inl (iZ ((1 : Int)))), some (.inl (iZ (l))), some (.inl (iZ (c))), none, none], [], M) = _; rw [xfix_unf, sX7_hasOnLine_0]
    simp (disch := omega) only [xk_none, xk_inl, xk_inr, xk_ite, xri_v, xrl_v, xrv_v, xb_z0, xb_z1, xb_b2, if_true, if_false, ite_true, ite_false, iZ_lit, iZ_m1, iZ_m99, iZ_m8, iZ_add, iZ_sub, iZ_mul, iZ_neg, nz0, nzi, iZ_lt, iZ_le, iZ_inj, b2_z, b2_o, ite_bPz, ite_bPo, xb_bP, iZ_xin, if_pos, ite_self, ↓reduceIte, Int.reduceAdd, Int.reduceSub, Int.reduceMul, Int.reduceNeg, Int.reduceLT, Int.reduceLE, if_neg, dv, m8, m8', d8, g]
  · rw [if_neg (by omega), if_neg (by omega)]
    have g := gen u v c hu hv hc
    have zz : ((2 : Nat) : Int) = 2 := rfl
    rw [zz]
    show xfix gX7_hasOnLine (0, [some (.inr (.inr (6, k))), some (.inl (iZ ((2 : Int)))), some (.inl (iZ (l))), some (.inl (iZ (c))), none, none], [], M) = _; rw [xfix_unf, sX7_hasOnLine_0]
    simp (disch := omega) only [xk_none, xk_inl, xk_inr, xk_ite, xri_v, xrl_v, xrv_v, xb_z0, xb_z1, xb_b2, if_true, if_false, ite_true, ite_false, iZ_lit, iZ_m1, iZ_m99, iZ_m8, iZ_add, iZ_sub, iZ_mul, iZ_neg, nz0, nzi, iZ_lt, iZ_le, iZ_inj, b2_z, b2_o, ite_bPz, ite_bPo, xb_bP, iZ_xin, if_pos, ite_self, ↓reduceIte, Int.reduceAdd, Int.reduceSub, Int.reduceMul, Int.reduceNeg, Int.reduceLT, Int.reduceLE, if_neg, dv, m8, m8', d8, g]
/-- how near to a side the first cell of a line is -/
noncomputable def frK (f : Nat → Bool) (w l : Nat) : Nat := lst (fun k => f (lnc w (l % 8) (l / 8) k) = true) 8
theorem x_findFronts {M : xM} {k w j : Nat} (hw : w < 6) : ∃ M', fX7_findFronts [.inr (.inr (6, k)), .inl (iZ (w)), .inr (.inr (45, j))] M = some (none, M') ∧ xSame (fun r => r = (45, j)) M M' ∧ ∀ l, l < 64 → xI M' (45, j) l = iZ (7 - (frK (sB M k) w l : Int)) := by
  have ax3 : w / 2 < 3 := by omega
  obtain ⟨M2, b1, b2, b3⟩ := xfor_M (sg := gX7_findFronts) (st := fun i M => (2, [some (.inr (.inr (6, k))), some (.inl (iZ (w))), some (.inr (.inr (45, j))), some (.inl (iZ (i))), none, none], [], M)) (I := fun n K => xSame (fun r => r = (45, j)) M K ∧ ∀ l, l < n → xI K (45, j) l = iZ (7 - (frK (sB M k) w l : Int))) (n := 64) (fun l K hl hK => by
    obtain ⟨k1, k2⟩ := hK
    have fle : frK (sB M k) w l ≤ 8 := lst_le _ 8
    -- the line, from the side on
    have inn : ∀ n i K', i + n = 8 → xSame (fun r => r = (45, j)) M K' → (∀ l', l' < l → xI K' (45, j) l' = iZ (7 - (frK (sB M k) w l' : Int))) → ((xI K' (45, j) l = iZ (-1) ∧ i ≤ frK (sB M k) w l) ∨ (xI K' (45, j) l = iZ (7 - (frK (sB M k) w l : Int)) ∧ frK (sB M k) w l < 8)) → ∃ K2, xfix gX7_findFronts (16, [some (.inr (.inr (6, k))), some (.inl (iZ (w))), some (.inr (.inr (45, j))), some (.inl (iZ (l))), some (.inl (iZ ((7 - (i : Int))))), none], [], K') = xfix gX7_findFronts (2, [some (.inr (.inr (6, k))), some (.inl (iZ (w))), some (.inr (.inr (45, j))), some (.inl (iZ (((l : Int) + 1)))), none, none], [], K2) ∧ xSame (fun r => r = (45, j)) M K2 ∧ (∀ l', l' < l → xI K2 (45, j) l' = iZ (7 - (frK (sB M k) w l' : Int))) ∧ xI K2 (45, j) l = iZ (7 - (frK (sB M k) w l : Int)) := by
      intro n
      induction n with
      | zero =>
        intro i K' hi s1 s2 s3
        have : i = 8 := by omega
        subst this
        have e8 : (7 : Int) - ((8 : Nat) : Int) = -1 := rfl
        refine ⟨K', ?_, s1, s2, ?_⟩
        · rw [e8]
          rw [xfix_unf, sX7_findFronts_16]
          simp (disch := omega) only [xk_none, xk_inl, xk_inr, xk_ite, xri_v, xrl_v, xrv_v, xb_z0, xb_z1, xb_b2, if_true, if_false, ite_true, ite_false, iZ_lit, iZ_m1, iZ_m99, iZ_m8, iZ_add, iZ_sub, iZ_mul, iZ_neg, nz0, nzi, iZ_lt, iZ_le, iZ_inj, b2_z, b2_o, ite_bPz, ite_bPo, xb_bP, iZ_xin, if_pos, ite_self, ↓reduceIte, Int.reduceAdd, Int.reduceSub, Int.reduceMul, Int.reduceNeg, Int.reduceLT, Int.reduceLE, if_neg]
        · rcases s3 with ⟨z, z2⟩ | ⟨z, _⟩
          · have e : frK (sB M k) w l = 8 := by omega
            rw [z, e]; rfl
          · exact z
      | succ n ih =>
        intro i K' hi s1 s2 s3
        have i8 : i < 8 := by omega
        rcases s3 with ⟨z, z2⟩ | ⟨z, z2⟩
        · have hS := x_signOf (M := K') (w := w) (by omega)
          have hX := x_axisOf (M := K') (w := w) (by omega)
          obtain ⟨c, ec⟩ : ∃ c : Nat, c = if w % 2 = 0 then 7 - i else i := ⟨_, rfl⟩
          have hc : c < 8 := by rw [ec]; split <;> omega
          have hh := x_hasOnLine (M := K') (k := k) (a := w / 2) (l := l) (c := c) ax3 hl hc
          have eL : (if w / 2 = 0 then 64 * (l / 8) + 8 * (l % 8) + c else if w / 2 = 1 then 64 * (l / 8) + 8 * c + l % 8 else 64 * c + 8 * (l / 8) + l % 8) = lnc w (l % 8) (l / 8) i := by
            unfold lnc; rw [ec]
          rw [eL, sB_same s1 (by simp) _] at hh
          have t45 : xfix gX7_findFronts (16, [some (.inr (.inr (6, k))), some (.inl (iZ (w))), some (.inr (.inr (45, j))), some (.inl (iZ (l))), some (.inl (iZ ((7 - (i : Int))))), none], [], K') = xfix gX7_findFronts (45, [some (.inr (.inr (6, k))), some (.inl (iZ (w))), some (.inr (.inr (45, j))), some (.inl (iZ (l))), some (.inl (iZ ((7 - (i : Int))))), none], [.inl (iZ (c))], K') := by
            by_cases q : w % 2 = 0
            · rw [if_pos q] at hS
              have e1 : (c : Int) = 7 - (i : Int) := by rw [ec, if_pos q]; omega
              rw [e1]
              rw [xfix_unf, sX7_findFronts_16]
              simp (disch := omega) only [xk_none, xk_inl, xk_inr, xk_ite, xri_v, xrl_v, xrv_v, xb_z0, xb_z1, xb_b2, if_true, if_false, ite_true, ite_false, iZ_lit, iZ_m1, iZ_m99, iZ_m8, iZ_add, iZ_sub, iZ_mul, iZ_neg, nz0, nzi, iZ_lt, iZ_le, iZ_inj, b2_z, b2_o, ite_bPz, ite_bPo, xb_bP, iZ_xin, if_pos, ite_self, ↓reduceIte, Int.reduceAdd, Int.reduceSub, Int.reduceMul, Int.reduceNeg, Int.reduceLT, Int.reduceLE, if_neg, iZ_clampN, z, hS]
            · rw [if_neg q] at hS
              have e1 : (7 : Int) - (7 - (i : Int)) = (c : Int) := by rw [ec, if_neg q]; omega
              rw [xfix_unf, sX7_findFronts_16]
              simp (disch := omega) only [xk_none, xk_inl, xk_inr, xk_ite, xri_v, xrl_v, xrv_v, xb_z0, xb_z1, xb_b2, if_true, if_false, ite_true, ite_false, iZ_lit, iZ_m1, iZ_m99, iZ_m8, iZ_add, iZ_sub, iZ_mul, iZ_neg, nz0, nzi, iZ_lt, iZ_le, iZ_inj, b2_z, b2_o, ite_bPz, ite_bPo, xb_bP, iZ_xin, if_pos, ite_self, ↓reduceIte, Int.reduceAdd, Int.reduceSub, Int.reduceMul, Int.reduceNeg, Int.reduceLT, Int.reduceLE, if_neg, iZ_clampN, z, hS, e1]
          have en : (7 : Int) - (i : Int) + -1 = 7 - ((i + 1 : Nat) : Int) := by omega
          by_cases y : sB M k (lnc w (l % 8) (l / 8) i) = true
          · rw [bP_t y] at hh
            have ef : frK (sB M k) w l = i := lst_eq (by omega) (fun x hx => lst_no _ 8 x (by show x < frK (sB M k) w l; omega)) (fun _ => y)
            obtain ⟨K2, g1, g2⟩ := ih (i + 1) (xpI K' (45, j) l (iZ (7 - (i : Int)))) (by omega) (s1.pI rfl) (fun l' h' => by rw [pR_ne (by omega)]; exact s2 l' h') (.inr ⟨by rw [pR_eq, ef], by omega⟩)
            refine ⟨K2, ?_, g2⟩
            rw [← g1, t45, ← en]
            generalize w / 2 = ax at *
            rw [xfix_unf, sX7_findFronts_45]
            simp (disch := omega) only [xk_none, xk_inl, xk_inr, xk_ite, xri_v, xrl_v, xrv_v, xb_z0, xb_z1, xb_b2, if_true, if_false, ite_true, ite_false, iZ_lit, iZ_m1, iZ_m99, iZ_m8, iZ_add, iZ_sub, iZ_mul, iZ_neg, nz0, nzi, iZ_lt, iZ_le, iZ_inj, b2_z, b2_o, ite_bPz, ite_bPo, xb_bP, iZ_xin, if_pos, ite_self, ↓reduceIte, Int.reduceAdd, Int.reduceSub, Int.reduceMul, Int.reduceNeg, Int.reduceLT, Int.reduceLE, if_neg, hX, hh, iZ_clampN]
          · rw [bP_f y] at hh
            have hne : frK (sB M k) w l ≠ i := fun q => by
              have := lst_is (fun k' => sB M k (lnc w (l % 8) (l / 8) k') = true) 8 (by show frK (sB M k) w l < 8; omega)
              have e2 : lst (fun k' => sB M k (lnc w (l % 8) (l / 8) k') = true) 8 = i := q
              rw [e2] at this
              exact y this
            obtain ⟨K2, g1, g2⟩ := ih (i + 1) K' (by omega) s1 s2 (.inl ⟨z, by omega⟩)
            refine ⟨K2, ?_, g2⟩
            rw [← g1, t45, ← en]
            generalize w / 2 = ax at *
            rw [xfix_unf, sX7_findFronts_45]
            simp (disch := omega) only [xk_none, xk_inl, xk_inr, xk_ite, xri_v, xrl_v, xrv_v, xb_z0, xb_z1, xb_b2, if_true, if_false, ite_true, ite_false, iZ_lit, iZ_m1, iZ_m99, iZ_m8, iZ_add, iZ_sub, iZ_mul, iZ_neg, nz0, nzi, iZ_lt, iZ_le, iZ_inj, b2_z, b2_o, ite_bPz, ite_bPo, xb_bP, iZ_xin, if_pos, ite_self, ↓reduceIte, Int.reduceAdd, Int.reduceSub, Int.reduceMul, Int.reduceNeg, Int.reduceLT, Int.reduceLE, if_neg, hX, hh]
        · refine ⟨K', ?_, s1, s2, z⟩
          have nz : ¬ (7 - (frK (sB M k) w l : Int)) = -1 := by omega
          generalize frK (sB M k) w l = fk at *
          rw [xfix_unf, sX7_findFronts_16]
          simp (disch := omega) only [xk_none, xk_inl, xk_inr, xk_ite, xri_v, xrl_v, xrv_v, xb_z0, xb_z1, xb_b2, if_true, if_false, ite_true, ite_false, iZ_lit, iZ_m1, iZ_m99, iZ_m8, iZ_add, iZ_sub, iZ_mul, iZ_neg, nz0, nzi, iZ_lt, iZ_le, iZ_inj, b2_z, b2_o, ite_bPz, ite_bPo, xb_bP, iZ_xin, if_pos, ite_self, ↓reduceIte, Int.reduceAdd, Int.reduceSub, Int.reduceMul, Int.reduceNeg, Int.reduceLT, Int.reduceLE, if_neg, iZ_clampN, z]
    obtain ⟨K2, g1, g2, g3, g4⟩ := inn 8 0 (xpI K (45, j) l (iZ (-1))) (by omega) (k1.pI rfl) (fun l' h' => by rw [pR_ne (by omega)]; exact k2 l' h') (.inl ⟨pR_eq, by omega⟩)
    refine ⟨K2, ?_, g2, fun l' h' => ?_⟩
    · rw [nS, ← g1]
      have e7 : (7 : Int) - ((0 : Nat) : Int) = 7 := rfl
      rw [e7]
      rw [xfix_unf, sX7_findFronts_2]
      simp (disch := omega) only [xk_none, xk_inl, xk_inr, xk_ite, xri_v, xrl_v, xrv_v, xb_z0, xb_z1, xb_b2, if_true, if_false, ite_true, ite_false, iZ_lit, iZ_m1, iZ_m99, iZ_m8, iZ_add, iZ_sub, iZ_mul, iZ_neg, nz0, nzi, iZ_lt, iZ_le, iZ_inj, b2_z, b2_o, ite_bPz, ite_bPo, xb_bP, iZ_xin, if_pos, ite_self, ↓reduceIte, Int.reduceAdd, Int.reduceSub, Int.reduceMul, Int.reduceNeg, Int.reduceLT, Int.reduceLE, if_neg, iZ_clampN]
    · by_cases z : l' = l
      · rw [z]; exact g4
      · exact g3 l' (by omega)) (a := 0) (M := M) (by omega) ⟨xSame.rf, fun l hl => by omega⟩
  refine ⟨M2, ?_, b2, b3⟩
  have zz : ((0 : Nat) : Int) = 0 := rfl
  have e64 : ((64 : Nat) : Int) = 64 := rfl
  rw [zz, e64] at b1
  show xfix gX7_findFronts (0, [some (.inr (.inr (6, k))), some (.inl (iZ (w))), some (.inr (.inr (45, j))), none, none, none], [], M) = _; rw [xfix_unf, sX7_findFronts_0]
  simp (disch := omega) only [xk_none, xk_inl, xk_inr, xk_ite, xri_v, xrl_v, xrv_v, xb_z0, xb_z1, xb_b2, if_true, if_false, ite_true, ite_false, iZ_lit, iZ_m1, iZ_m99, iZ_m8, iZ_add, iZ_sub, iZ_mul, iZ_neg, nz0, nzi, iZ_lt, iZ_le, iZ_inj, b2_z, b2_o, ite_bPz, ite_bPo, xb_bP, iZ_xin, if_pos, ite_self, ↓reduceIte, Int.reduceAdd, Int.reduceSub, Int.reduceMul, Int.reduceNeg, Int.reduceLT, Int.reduceLE, if_neg]
  refine Eq.trans b1 ?_
  rw [xfix_unf, sX7_findFronts_2]
  simp (disch := omega) only [xk_none, xk_inl, xk_inr, xk_ite, xri_v, xrl_v, xrv_v, xb_z0, xb_z1, xb_b2, if_true, if_false, ite_true, ite_false, iZ_lit, iZ_m1, iZ_m99, iZ_m8, iZ_add, iZ_sub, iZ_mul, iZ_neg, nz0, nzi, iZ_lt, iZ_le, iZ_inj, b2_z, b2_o, ite_bPz, ite_bPo, xb_bP, iZ_xin, if_pos, ite_self, ↓reduceIte, Int.reduceAdd, Int.reduceSub, Int.reduceMul, Int.reduceNeg, Int.reduceLT, Int.reduceLE, if_neg]
abbrev frF (r : xR) : Prop := r = (45, 0) ∨ r = (45, 1)
theorem fr_bothI {M : xM} {w : Nat} (hw : w < 6) : ∃ M1 M2, fX7_findFronts [.inr (.inr (6, 44)), .inl (iZ (w)), .inr (.inr (45, 0))] M = some (none, M1) ∧ fX7_findFronts [.inr (.inr (6, 45)), .inl (iZ (w)), .inr (.inr (45, 1))] M1 = some (none, M2) ∧ xSame frF M M2 ∧ ∀ l, l < 64 → xI M2 (45, 0) l = iZ (7 - (frK (sB M 44) w l : Int)) ∧ xI M2 (45, 1) l = iZ (7 - (frK (sB M 45) w l : Int)) := by
  obtain ⟨M1, a1, a2, a3⟩ := x_findFronts (M := M) (k := 44) (j := 0) hw
  obtain ⟨M2, b1, b2, b3⟩ := x_findFronts (M := M1) (k := 45) (j := 1) hw
  refine ⟨M1, M2, a1, b1, (a2.wk fun r z => .inl z).tr (b2.wk fun r z => .inr z), fun l hl => ⟨?_, ?_⟩⟩
  · rw [(b2 (45, 0) (by simp)).1]; exact a3 l hl
  · rw [b3 l hl]
    have e : sB M1 45 = sB M 45 := funext fun c => sB_same a2 (by simp) c
    rw [e]
theorem x_linesSeen {M : xM} {A : dA} {heap half w : Nat} (hw : w < 6) (hs : half &&& heap = half) (hL : cLd M A half (ndn heap half)) : ∃ M', fX7_linesSeen [.inr (.inr (7, 0)), .inl (iZ (w))] M = some (some (.inl (iZ (snA A heap half w))), M') ∧ xSame frF M M' := by
  obtain ⟨M1, M2, a1, b1, s2, fr⟩ := fr_bothI (M := M) hw
  have inA : ∀ c, inH A heap c ↔ inH A half c ∨ inH A (ndn heap half) c := fun c => by
    constructor
    · rintro ⟨p, p1, p2⟩
      by_cases z : half.testBit p = true
      · exact .inl ⟨p, p1, z⟩
      · exact .inr ⟨p, p1, by rw [ndn_bit, p2]; simpa using z⟩
    · rintro (⟨p, p1, p2⟩ | ⟨p, p1, p2⟩)
      · exact ⟨p, p1, ndn_z.mp (ndn_and.mpr hs) p p2⟩
      · rw [ndn_bit, Bool.and_eq_true] at p2; exact ⟨p, p1, p2.1⟩
  have cond : ∀ l, l < 64 → (snP A heap half w (l % 8) (l / 8) ↔ frK (sB M 44) w l < frK (sB M 45) w l) := fun l hl => by
    have hlt : ∀ k, k < 8 → lnc w (l % 8) (l / 8) k < 512 := fun k hk => lnc_lt (by omega) (by omega) hk
    have f8 : frK (sB M 45) w l ≤ 8 := lst_le _ 8
    have f4 : frK (sB M 44) w l ≤ 8 := lst_le _ 8
    constructor
    · rintro ⟨k, k1, k2, k3⟩
      have e1 : ¬ k < frK (sB M 44) w l := fun z => lst_no (fun k => sB M 44 (lnc w (l % 8) (l / 8) k) = true) 8 k z ((hL _ (hlt k k1)).1.mpr k2)
      have e2 : k < frK (sB M 45) w l := by
        refine Classical.byContradiction fun z => ?_
        have l8 : frK (sB M 45) w l < 8 := by omega
        have q := lst_is (fun k => sB M 45 (lnc w (l % 8) (l / 8) k) = true) 8 l8
        have q2 := (hL _ (hlt _ l8)).2.mp q
        by_cases y : frK (sB M 45) w l = k
        · have q3 : inH A (ndn heap half) (lnc w (l % 8) (l / 8) k) := by
            have e : lst (fun k => sB M 45 (lnc w (l % 8) (l / 8) k) = true) 8 = k := y
            first
            | (rw [y] at q2; exact q2)
            | (rw [e] at q2; exact q2)
          obtain ⟨p, p1, p2⟩ := k2
          have := (inH_iff (heap := ndn heap half) p1).mp q3
          rw [ndn_bit, p2] at this; simp at this
        · exact k3 _ (by show lst _ 8 < k; have : frK (sB M 45) w l < k := by omega
                         exact this) ((inA _).mpr (.inr q2))
      omega
    · intro h
      have l8 : frK (sB M 44) w l < 8 := by omega
      have q := lst_is (fun k => sB M 44 (lnc w (l % 8) (l / 8) k) = true) 8 l8
      refine ⟨frK (sB M 44) w l, l8, (hL _ (hlt _ l8)).1.mp q, fun j hj z => ?_⟩
      rcases (inA _).mp z with z | z
      · exact lst_no (fun k => sB M 44 (lnc w (l % 8) (l / 8) k) = true) 8 j hj ((hL _ (hlt j (by omega))).1.mpr z)
      · exact lst_no (fun k => sB M 45 (lnc w (l % 8) (l / 8) k) = true) 8 j (by show j < frK (sB M 45) w l; omega) ((hL _ (hlt j (by omega))).2.mpr z)
  have lp := xfor_F (sg := gX7_linesSeen) (fun l => (28, [some (.inr (.inr (7, 0))), none, some (.inl (iZ ((sm (fun l => ind (snP A heap half w (l % 8) (l / 8))) l)))), some (.inl (iZ (l)))], [], M2)) (a := 0) (n := 64) (by omega) (fun l _ hl => by
    obtain ⟨f1, f2⟩ := fr l hl
    have c := cond l hl
    have e : sm (fun l => ind (snP A heap half w (l % 8) (l / 8))) (l + 1) = sm (fun l => ind (snP A heap half w (l % 8) (l / 8))) l + ind (snP A heap half w (l % 8) (l / 8)) := rfl
    have f8 : frK (sB M 45) w l ≤ 8 := lst_le _ 8
    have f4 : frK (sB M 44) w l ≤ 8 := lst_le _ 8
    rw [e, nS]
    generalize sm (fun l => ind (snP A heap half w (l % 8) (l / 8))) l = ss at *
    by_cases y : snP A heap half w (l % 8) (l / 8)
    · have y2 := c.mp y
      rw [ind_t y]
      generalize frK (sB M 44) w l = a at *
      generalize frK (sB M 45) w l = b at *
      rw [xfix_unf, sX7_linesSeen_28]
      simp (disch := omega) only [xk_none, xk_inl, xk_inr, xk_ite, xri_v, xrl_v, xrv_v, xb_z0, xb_z1, xb_b2, if_true, if_false, ite_true, ite_false, iZ_lit, iZ_m1, iZ_m99, iZ_m8, iZ_add, iZ_sub, iZ_mul, iZ_neg, nz0, nzi, iZ_lt, iZ_le, iZ_inj, b2_z, b2_o, ite_bPz, ite_bPo, xb_bP, iZ_xin, if_pos, ite_self, ↓reduceIte, Int.reduceAdd, Int.reduceSub, Int.reduceMul, Int.reduceNeg, Int.reduceLT, Int.reduceLE, if_neg, iZ_clampN, f1, f2]
    · have y2 : ¬ frK (sB M 44) w l < frK (sB M 45) w l := fun z => y (c.mpr z)
      rw [ind_f y]
      generalize frK (sB M 44) w l = a at *
      generalize frK (sB M 45) w l = b at *
      rw [xfix_unf, sX7_linesSeen_28]
      simp (disch := omega) only [xk_none, xk_inl, xk_inr, xk_ite, xri_v, xrl_v, xrv_v, xb_z0, xb_z1, xb_b2, if_true, if_false, ite_true, ite_false, iZ_lit, iZ_m1, iZ_m99, iZ_m8, iZ_add, iZ_sub, iZ_mul, iZ_neg, nz0, nzi, iZ_lt, iZ_le, iZ_inj, b2_z, b2_o, ite_bPz, ite_bPo, xb_bP, iZ_xin, if_pos, ite_self, ↓reduceIte, Int.reduceAdd, Int.reduceSub, Int.reduceMul, Int.reduceNeg, Int.reduceLT, Int.reduceLE, if_neg, iZ_clampN, f1, f2])
  refine ⟨M2, ?_, s2⟩
  have s0 : sm (fun l => ind (snP A heap half w (l % 8) (l / 8))) 0 = 0 := rfl
  have zz : ((0 : Nat) : Int) = 0 := rfl
  have e64 : ((64 : Nat) : Int) = 64 := rfl
  rw [s0, zz, e64] at lp
  show xfix gX7_linesSeen (0, [some (.inr (.inr (7, 0))), some (.inl (iZ (w))), none, none], [], M) = _; rw [xfix_unf, sX7_linesSeen_0]
  simp (disch := omega) only [xk_none, xk_inl, xk_inr, xk_ite, xri_v, xrl_v, xrv_v, xb_z0, xb_z1, xb_b2, if_true, if_false, ite_true, ite_false, iZ_lit, iZ_m1, iZ_m99, iZ_m8, iZ_add, iZ_sub, iZ_mul, iZ_neg, nz0, nzi, iZ_lt, iZ_le, iZ_inj, b2_z, b2_o, ite_bPz, ite_bPo, xb_bP, iZ_xin, if_pos, ite_self, ↓reduceIte, Int.reduceAdd, Int.reduceSub, Int.reduceMul, Int.reduceNeg, Int.reduceLT, Int.reduceLE, if_neg, a1, b1]
  refine lp.trans ?_
  show _ = (some (some (.inl (iZ (sm (fun l => ind (snP A heap half w (l % 8) (l / 8))) 64))), M2) : Option (Option xV × xM))
  generalize sm (fun l => ind (snP A heap half w (l % 8) (l / 8))) 64 = ss at *
  rw [xfix_unf, sX7_linesSeen_28]
  simp (disch := omega) only [xk_none, xk_inl, xk_inr, xk_ite, xri_v, xrl_v, xrv_v, xb_z0, xb_z1, xb_b2, if_true, if_false, ite_true, ite_false, iZ_lit, iZ_m1, iZ_m99, iZ_m8, iZ_add, iZ_sub, iZ_mul, iZ_neg, nz0, nzi, iZ_lt, iZ_le, iZ_inj, b2_z, b2_o, ite_bPz, ite_bPo, xb_bP, iZ_xin, if_pos, ite_self, ↓reduceIte, Int.reduceAdd, Int.reduceSub, Int.reduceMul, Int.reduceNeg, Int.reduceLT, Int.reduceLE, if_neg]
theorem x_bestSide {M : xM} {A : dA} {heap half : Nat} (hs : half &&& heap = half) (hL : cLd M A half (ndn heap half)) : ∃ M', fX7_bestSide [.inr (.inr (7, 0))] M = some (some (.inl (iZ ((vwR A heap half 6 : Nat)))), M') ∧ xSame frF M M' := by
  obtain ⟨M2, b1, b2⟩ := xfor_M (sg := gX7_bestSide) (st := fun i M => (6, [some (.inr (.inr (7, 0))), some (.inl (iZ ((vwR A heap half i)))), some (.inl (iZ ((if i = 0 then -1 else snA A heap half (vwR A heap half i))))), some (.inl (iZ (i))), none], [], M)) (I := fun n K => xSame frF M K) (n := 6) (fun i K hi hK => by
    have hL' : cLd K A half (ndn heap half) := fun c hc => by rw [sB_same hK (by simp) c, sB_same hK (by simp) c]; exact hL c hc
    obtain ⟨K1, d1, d2⟩ := x_linesSeen (M := K) hi hs hL'
    have sb := snA_b A heap half i
    have sb2 := snA_b A heap half (vwR A heap half i)
    have vl := vwR_le A heap half i
    refine ⟨K1, ?_, hK.tr d2⟩
    rw [if_neg (show ¬ i + 1 = 0 by omega), nS]
    have eV : vwR A heap half (i + 1) = if snA A heap half (vwR A heap half i) < snA A heap half i then i else vwR A heap half i := rfl
    by_cases z : i = 0
    · subst z
      have e0 : vwR A heap half 0 = 0 := rfl
      rw [e0] at eV
      rw [if_neg (by omega)] at eV
      rw [if_pos rfl, eV, e0]
      generalize snA A heap half 0 = s0 at *
      rw [xfix_unf, sX7_bestSide_6]
      simp (disch := omega) only [xk_none, xk_inl, xk_inr, xk_ite, xri_v, xrl_v, xrv_v, xb_z0, xb_z1, xb_b2, if_true, if_false, ite_true, ite_false, iZ_lit, iZ_m1, iZ_m99, iZ_m8, iZ_add, iZ_sub, iZ_mul, iZ_neg, nz0, nzi, iZ_lt, iZ_le, iZ_inj, b2_z, b2_o, ite_bPz, ite_bPo, xb_bP, iZ_xin, if_pos, ite_self, ↓reduceIte, Int.reduceAdd, Int.reduceSub, Int.reduceMul, Int.reduceNeg, Int.reduceLT, Int.reduceLE, if_neg, d1]
    · rw [if_neg z]
      by_cases y : snA A heap half (vwR A heap half i) < snA A heap half i
      · rw [if_pos y] at eV
        rw [eV]
        generalize snA A heap half (vwR A heap half i) = s1 at *
        generalize snA A heap half i = s2 at *
        rw [xfix_unf, sX7_bestSide_6]
        simp (disch := omega) only [xk_none, xk_inl, xk_inr, xk_ite, xri_v, xrl_v, xrv_v, xb_z0, xb_z1, xb_b2, if_true, if_false, ite_true, ite_false, iZ_lit, iZ_m1, iZ_m99, iZ_m8, iZ_add, iZ_sub, iZ_mul, iZ_neg, nz0, nzi, iZ_lt, iZ_le, iZ_inj, b2_z, b2_o, ite_bPz, ite_bPo, xb_bP, iZ_xin, if_pos, ite_self, ↓reduceIte, Int.reduceAdd, Int.reduceSub, Int.reduceMul, Int.reduceNeg, Int.reduceLT, Int.reduceLE, if_neg, d1]
      · rw [if_neg y] at eV
        rw [eV]
        generalize snA A heap half (vwR A heap half i) = s1 at *
        generalize snA A heap half i = s2 at *
        rw [xfix_unf, sX7_bestSide_6]
        simp (disch := omega) only [xk_none, xk_inl, xk_inr, xk_ite, xri_v, xrl_v, xrv_v, xb_z0, xb_z1, xb_b2, if_true, if_false, ite_true, ite_false, iZ_lit, iZ_m1, iZ_m99, iZ_m8, iZ_add, iZ_sub, iZ_mul, iZ_neg, nz0, nzi, iZ_lt, iZ_le, iZ_inj, b2_z, b2_o, ite_bPz, ite_bPo, xb_bP, iZ_xin, if_pos, ite_self, ↓reduceIte, Int.reduceAdd, Int.reduceSub, Int.reduceMul, Int.reduceNeg, Int.reduceLT, Int.reduceLE, if_neg, d1]) (a := 0) (M := M) (by omega) xSame.rf
  refine ⟨M2, ?_, b2⟩
  have e0 : ((vwR A heap half 0 : Nat) : Int) = 0 := rfl
  have zz : ((0 : Nat) : Int) = 0 := rfl
  have e6 : ((6 : Nat) : Int) = 6 := rfl
  rw [e0, if_pos rfl, zz, if_neg (by omega), e6] at b1
  show xfix gX7_bestSide (0, [some (.inr (.inr (7, 0))), none, none, none, none], [], M) = _; rw [xfix_unf, sX7_bestSide_0]
  simp (disch := omega) only [xk_none, xk_inl, xk_inr, xk_ite, xri_v, xrl_v, xrv_v, xb_z0, xb_z1, xb_b2, if_true, if_false, ite_true, ite_false, iZ_lit, iZ_m1, iZ_m99, iZ_m8, iZ_add, iZ_sub, iZ_mul, iZ_neg, nz0, nzi, iZ_lt, iZ_le, iZ_inj, b2_z, b2_o, ite_bPz, ite_bPo, xb_bP, iZ_xin, if_pos, ite_self, ↓reduceIte, Int.reduceAdd, Int.reduceSub, Int.reduceMul, Int.reduceNeg, Int.reduceLT, Int.reduceLE, if_neg]
  refine Eq.trans b1 ?_
  generalize snA A heap half (vwR A heap half 6) = s6 at *
  rw [xfix_unf, sX7_bestSide_6]
  simp (disch := omega) only [xk_none, xk_inl, xk_inr, xk_ite, xri_v, xrl_v, xrv_v, xb_z0, xb_z1, xb_b2, if_true, if_false, ite_true, ite_false, iZ_lit, iZ_m1, iZ_m99, iZ_m8, iZ_add, iZ_sub, iZ_mul, iZ_neg, nz0, nzi, iZ_lt, iZ_le, iZ_inj, b2_z, b2_o, ite_bPz, ite_bPo, xb_bP, iZ_xin, if_pos, ite_self, ↓reduceIte, Int.reduceAdd, Int.reduceSub, Int.reduceMul, Int.reduceNeg, Int.reduceLT, Int.reduceLE, if_neg]
