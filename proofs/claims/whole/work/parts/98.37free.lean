/-! the class: free offsets -/
abbrev ckF (r : xR) : Prop := r = (46, 0) ∨ r = (46, 1)
/-- what is known of offsets is true -/
def cKn (M : xM) (A : dA) (half rest : Nat) : Prop := ∀ s, s < 4913 → (ofM M 0 s = true → (ofM M 1 s = true ↔ ¬ frT A half rest s)) ∧ (¬ ofM M 0 s = true → ¬ ofM M 1 s = true)
theorem cKn.same {P : xR → Prop} {M M' : xM} {A : dA} {half rest : Nat} (h : cKn M A half rest) (hs : xSame P M M') (h0 : ¬ P (46, 0)) (h1 : ¬ P (46, 1)) : cKn M' A half rest := fun s hl => by
  rw [ofM_same hs h0, ofM_same hs h1]
  exact h s hl
theorem cLd.same {P : xR → Prop} {M M' : xM} {A : dA} {half rest : Nat} (h : cLd M A half rest) (hs : xSame P M M') (h0 : ¬ P (44, 44)) (h1 : ¬ P (44, 45)) : cLd M' A half rest := fun c hc => by
  rw [sB_same hs h0, sB_same hs h1]
  exact h c hc
theorem mtM_st {M : xM} {A : dA} {half rest : Nat} (hL : cLd M A half rest) {x y z : Int} : mtM (sB M 44) (sB M 45) x y z ↔ stS A half rest x y z := by
  constructor
  · rintro ⟨c, c1, c2, o, o1, o2, o3, o4, o5⟩
    refine ⟨c, c1, (hL c c1).1.mp c2, ?_⟩
    have := (r3_n o1).mp ((hL o o1).2.mp o2)
    rw [o3, o4, o5] at this
    exact this
  · rintro ⟨c, c1, c2, c3⟩
    have b := r3_in c3
    have i := (r3_c b).mp c3
    exact ⟨c, c1, (hL c c1).1.mpr c2, _, by omega, (hL _ (by omega)).2.mpr i, by omega, by omega, by omega⟩
theorem x_isFree {M : xM} {A : dA} {half rest s : Nat} (hs : s < 4913) (hL : cLd M A half rest) (hK : cKn M A half rest) : ∃ M', fX7_isFree [.inr (.inr (7, 0)), .inl (iZ (s))] M = some (some (.inl (bP (frT A half rest s))), M') ∧ xSame ckF M M' ∧ cKn M' A half rest := by
  obtain ⟨k1, k2⟩ := hK s hs
  have i0 := x_isMarked (M := M) (k := 0) (s := s) (by omega)
  have i1 := x_isMarked (M := M) (k := 1) (s := s) (by omega)
  by_cases e : ofM M 0 s = true
  · refine ⟨M, ?_, xSame.rf, hK⟩
    rw [bP_t e] at i0
    by_cases f : ofM M 1 s = true
    · rw [bP_t f] at i1
      rw [bP_f ((k1 e).mp f)]
      show xfix gX7_isFree (0, [some (.inr (.inr (7, 0))), some (.inl (iZ (s)))], [], M) = _; rw [xfix_unf, sX7_isFree_0]
      simp (disch := omega) only [xk_none, xk_inl, xk_inr, xk_ite, xri_v, xrl_v, xrv_v, xb_z0, xb_z1, xb_b2, if_true, if_false, ite_true, ite_false, iZ_lit, iZ_m1, iZ_m99, iZ_m8, iZ_add, iZ_sub, iZ_mul, iZ_neg, nz0, nzi, iZ_lt, iZ_le, iZ_inj, b2_z, b2_o, ite_bPz, ite_bPo, xb_bP, iZ_xin, if_pos, ite_self, ↓reduceIte, Int.reduceAdd, Int.reduceSub, Int.reduceMul, Int.reduceNeg, Int.reduceLT, Int.reduceLE, if_neg, ↓xri_some i0, ↓xri_some i1]
    · rw [bP_f f] at i1
      rw [bP_t (Classical.byContradiction fun z => f ((k1 e).mpr z))]
      show xfix gX7_isFree (0, [some (.inr (.inr (7, 0))), some (.inl (iZ (s)))], [], M) = _; rw [xfix_unf, sX7_isFree_0]
      simp (disch := omega) only [xk_none, xk_inl, xk_inr, xk_ite, xri_v, xrl_v, xrv_v, xb_z0, xb_z1, xb_b2, if_true, if_false, ite_true, ite_false, iZ_lit, iZ_m1, iZ_m99, iZ_m8, iZ_add, iZ_sub, iZ_mul, iZ_neg, nz0, nzi, iZ_lt, iZ_le, iZ_inj, b2_z, b2_o, ite_bPz, ite_bPo, xb_bP, iZ_xin, if_pos, ite_self, ↓reduceIte, Int.reduceAdd, Int.reduceSub, Int.reduceMul, Int.reduceNeg, Int.reduceLT, Int.reduceLE, if_neg, ↓xri_some i0, ↓xri_some i1]
  · rw [bP_f e] at i0
    obtain ⟨M1, a1, a2, a3⟩ := x_mark (M := M) (k := 0) (s := s) (by omega)
    have o0 : fX7_offsetAt [.inl (iZ (s)), .inl (iZ ((0 : Int)))] M1 = some (some (.inl (iZ (oX s))), M1) := x_offsetAt (M := M1) hs (show 0 < 3 by omega)
    have o1 : fX7_offsetAt [.inl (iZ (s)), .inl (iZ ((1 : Int)))] M1 = some (some (.inl (iZ (oY s))), M1) := x_offsetAt (M := M1) hs (show 1 < 3 by omega)
    have o2 : fX7_offsetAt [.inl (iZ (s)), .inl (iZ ((2 : Int)))] M1 = some (some (.inl (iZ (oZ s))), M1) := x_offsetAt (M := M1) hs (show 2 < 3 by omega)
    obtain ⟨bx, by', bz⟩ := o_b hs
    have mm := x_meetsMoved (M := M1) (k0 := 44) (k1 := 45) bx by' bz
    have hL1 : cLd M1 A half rest := hL.same a2 (by simp) (by simp)
    rw [bP_c (mtM_st hL1)] at mm
    have i1' := x_isMarked (M := M1) (k := 1) (s := s) (by omega)
    have t1 : ∀ u, ofM M1 1 u = ofM M 1 u := fun u => ofM_same a2 (by simp) u
    have n1 : ¬ ofM M1 1 s = true := by rw [t1]; exact k2 e
    rw [bP_f n1] at i1'
    by_cases f : stS A half rest (oX s) (oY s) (oZ s)
    · have nf : ¬ frT A half rest s := fun z => z f
      rw [bP_t f] at mm
      obtain ⟨M2, b1, b2, b3⟩ := x_mark (M := M1) (k := 1) (s := s) (by omega)
      have i2 := x_isMarked (M := M2) (k := 1) (s := s) (by omega)
      rw [bP_t ((b3 s).mpr (.inl rfl))] at i2
      refine ⟨M2, ?_, (a2.wk fun r z => .inl z).tr (b2.wk fun r z => .inr z), fun u hu => ?_⟩
      · rw [bP_f nf]
        generalize oX s = ox at *
        generalize oY s = oy at *
        generalize oZ s = oz at *
        show xfix gX7_isFree (0, [some (.inr (.inr (7, 0))), some (.inl (iZ (s)))], [], M) = _; rw [xfix_unf, sX7_isFree_0]
        simp (disch := omega) only [xk_none, xk_inl, xk_inr, xk_ite, xri_v, xrl_v, xrv_v, xb_z0, xb_z1, xb_b2, if_true, if_false, ite_true, ite_false, iZ_lit, iZ_m1, iZ_m99, iZ_m8, iZ_add, iZ_sub, iZ_mul, iZ_neg, nz0, nzi, iZ_lt, iZ_le, iZ_inj, b2_z, b2_o, ite_bPz, ite_bPo, xb_bP, iZ_xin, if_pos, ite_self, ↓reduceIte, Int.reduceAdd, Int.reduceSub, Int.reduceMul, Int.reduceNeg, Int.reduceLT, Int.reduceLE, if_neg, ↓xri_some i0, ↓xrv_some a1, ↓xri_some o0, ↓xri_some o1, ↓xri_some o2, ↓xri_some mm, ↓xrv_some b1, ↓xri_some i2]
      · have q := hK u hu
        rw [b3, t1, ofM_same b2 (by simp), a3]
        by_cases eu : u = s
        · subst eu
          exact ⟨fun _ => ⟨fun _ => nf, fun _ => .inl rfl⟩, fun z => absurd (.inl rfl) z⟩
        · refine ⟨fun z => ?_, fun z => ?_⟩
          · rw [← q.1 (z.elim (fun z => absurd z eu) id)]
            exact ⟨fun y => y.elim (fun y => absurd y eu) id, .inr⟩
          · intro y
            exact q.2 (fun x => z (.inr x)) (y.elim (fun y => absurd y eu) id)
    · have yf : frT A half rest s := f
      rw [bP_f f] at mm
      refine ⟨M1, ?_, a2.wk fun r z => .inl z, fun u hu => ?_⟩
      · rw [bP_t yf]
        generalize oX s = ox at *
        generalize oY s = oy at *
        generalize oZ s = oz at *
        show xfix gX7_isFree (0, [some (.inr (.inr (7, 0))), some (.inl (iZ (s)))], [], M) = _; rw [xfix_unf, sX7_isFree_0]
        simp (disch := omega) only [xk_none, xk_inl, xk_inr, xk_ite, xri_v, xrl_v, xrv_v, xb_z0, xb_z1, xb_b2, if_true, if_false, ite_true, ite_false, iZ_lit, iZ_m1, iZ_m99, iZ_m8, iZ_add, iZ_sub, iZ_mul, iZ_neg, nz0, nzi, iZ_lt, iZ_le, iZ_inj, b2_z, b2_o, ite_bPz, ite_bPo, xb_bP, iZ_xin, if_pos, ite_self, ↓reduceIte, Int.reduceAdd, Int.reduceSub, Int.reduceMul, Int.reduceNeg, Int.reduceLT, Int.reduceLE, if_neg, ↓xri_some i0, ↓xrv_some a1, ↓xri_some o0, ↓xri_some o1, ↓xri_some o2, ↓xri_some mm, ↓xri_some i1']
      · have q := hK u hu
        rw [t1, a3]
        by_cases eu : u = s
        · subst eu
          exact ⟨fun _ => ⟨fun z => absurd z (k2 e), fun z => absurd yf z⟩, fun _ => k2 e⟩
        · exact ⟨fun z => q.1 (z.elim (fun z => absurd z eu) id), fun z => q.2 (fun x => z (.inr x))⟩
/-- steps of a number -/
theorem s_step {s w k : Nat} (hs : s < 4913) (hw : w < 6) (hk : (k : Int) ≤ 8 - sg1 w * oA s (w / 2)) : ∃ u : Nat, u < 4913 ∧ (u : Int) = s + k * strS w ∧ oX u = oX s + k * dX w ∧ oY u = oY s + k * dY w ∧ oZ u = oZ s + k * dZ w := by
  refine ⟨((s : Int) + k * strS w).toNat, ?_⟩
  rcases w6 hw with e | e | e | e | e | e <;> subst e <;> simp [strS, sg1, oA, oX, oY, oZ, dX, dY, dZ] at hk ⊢ <;> omega
theorem ok_left {s w : Nat} (hs : s < 4913) (hw : w < 6) : okN s w ↔ 0 < 8 - sg1 w * oA s (w / 2) := by
  have := o_b hs
  unfold okN
  rcases w6 hw with e | e | e | e | e | e <;> subst e <;> simp [sg1, oA, dX, dY, dZ] <;> omega
theorem nx_str {s w : Nat} (hs : s < 4913) (hw : w < 6) (h : okN s w) : (nxN s w : Int) = s + strS w := by
  unfold okN at h
  unfold nxN
  rcases w6 hw with e | e | e | e | e | e <;> subst e <;> simp [strS, sg1, oX, oY, oZ, dX, dY, dZ] at h ⊢ <;> omega
theorem fw_st {A : dA} {half rest w : Nat} {x y z : Int} : fwS A half rest w x y z ↔ ∀ k : Nat, 1 ≤ k → ¬ stS A half rest (x + k * dX w) (y + k * dY w) (z + k * dZ w) := by
  constructor
  · rintro h k k1 ⟨c, c1, c2, c3⟩
    refine h c c1 c2 ⟨k, k1, ?_⟩
    rw [Int.add_assoc, Int.add_assoc, Int.add_assoc]
    exact c3
  · rintro h c c1 c2 ⟨k, k1, k2⟩
    refine h k k1 ⟨c, c1, c2, ?_⟩
    rw [Int.add_assoc, Int.add_assoc, Int.add_assoc] at k2
    exact k2
theorem st_far {A : dA} {half rest : Nat} {x y z : Int} (h : (x ≤ -8 ∨ 8 ≤ x) ∨ (y ≤ -8 ∨ 8 ≤ y) ∨ (z ≤ -8 ∨ 8 ≤ z)) : ¬ stS A half rest x y z := by
  rintro ⟨c, c1, c2, c3⟩
  have := r3_in c3
  omega
theorem fw_fr {A : dA} {half rest s w : Nat} (hs : s < 4913) (hw : w < 6) : fwS A half rest w (oX s) (oY s) (oZ s) ↔ ∀ k : Nat, 1 ≤ k → (k : Int) ≤ 8 - sg1 w * oA s (w / 2) → frT A half rest ((s : Int) + k * strS w).toNat := by
  rw [fw_st]
  constructor
  · intro h k k1 k2
    obtain ⟨u, u1, u2, u3, u4, u5⟩ := s_step hs hw k2
    have := h k k1
    rw [← u3, ← u4, ← u5] at this
    rw [← u2]
    exact this
  · intro h k k1
    by_cases k2 : (k : Int) ≤ 8 - sg1 w * oA s (w / 2)
    · obtain ⟨u, u1, u2, u3, u4, u5⟩ := s_step hs hw k2
      have := h k k1 k2
      rw [← u2] at this
      rw [← u3, ← u4, ← u5]
      exact this
    · refine st_far ?_
      have := o_b hs
      rcases w6 hw with e | e | e | e | e | e <;> subst e <;> simp [sg1, oA, dX, dY, dZ] at k2 ⊢ <;> omega
theorem strS_b {w : Nat} (hw : w < 6) : -289 ≤ strS w ∧ strS w ≤ 289 := by
  rcases w6 hw with e | e | e | e | e | e <;> subst e <;> simp [strS, sg1]
theorem x_isOpen {M : xM} {A : dA} {half rest s w : Nat} (hs : s < 4913) (hw : w < 6) (hL : cLd M A half rest) (hK : cKn M A half rest) : ∃ M', fX7_isOpen [.inr (.inr (7, 0)), .inl (iZ (s)), .inl (iZ (w))] M = some (some (.inl (bP (fwS A half rest w (oX s) (oY s) (oZ s)))), M') ∧ xSame ckF M M' ∧ cKn M' A half rest := by
  have hl := x_stepsLeft (M := M) hs hw
  have ob := oA_b hs (w / 2)
  have lb : 0 ≤ 8 - sg1 w * oA s (w / 2) ∧ 8 - sg1 w * oA s (w / 2) ≤ 16 := by rcases sg1_b w with e | e <;> rw [e] <;> omega
  have cond := fw_fr (A := A) (half := half) (rest := rest) hs hw
  have stp' := fun k => s_step (k := k) hs hw
  have sb := strS_b hw
  generalize 8 - sg1 w * oA s (w / 2) = far at *
  obtain ⟨n, rfl⟩ : ∃ n : Nat, far = n := ⟨far.toNat, by omega⟩
  have n0 : 1 ≤ n + 1 := by omega
  have r := xfor_R (sg := gX7_isOpen) (st := fun k M => (9, [some (.inr (.inr (7, 0))), some (.inl (iZ (s))), some (.inl (iZ (w))), some (.inl (iZ (n))), some (.inl (iZ (k)))], [], M)) (I := fun k K => 1 ≤ k ∧ xSame ckF M K ∧ cKn K A half rest ∧ ∀ j : Nat, 1 ≤ j → j < k → frT A half rest ((s : Int) + j * strS w).toNat) (Q := fun res => ∃ M', res = some (some (.inl (bP (fwS A half rest w (oX s) (oY s) (oZ s)))), M') ∧ xSame ckF M M' ∧ cKn M' A half rest) (n := n + 1) (fun k K hk hI => by
    obtain ⟨i0, i1, i2, i3⟩ := hI
    obtain ⟨u, u1, u2, _⟩ := stp' k (by omega)
    have hst := x_strideOf (M := K) hw
    obtain ⟨K2, f1, f2, f3⟩ := x_isFree (M := K) u1 (hL.same i1 (by simp) (by simp)) i2
    have pk : -5000 ≤ (k : Int) * strS w ∧ (k : Int) * strS w ≤ 5000 := by omega
    by_cases y : frT A half rest u
    · refine .inl ⟨K2, ?_, by omega, i1.tr f2, f3, fun j j1 j2 => ?_⟩
      · rw [bP_t y, u2] at f1
        rw [nS]
        generalize strS w = S at *
        clear cond i3 stp'
        rw [xfix_unf, sX7_isOpen_9]
        simp (disch := omega) only [xk_none, xk_inl, xk_inr, xk_ite, xri_v, xrl_v, xrv_v, xb_z0, xb_z1, xb_b2, if_true, if_false, ite_true, ite_false, iZ_lit, iZ_m1, iZ_m99, iZ_m8, iZ_add, iZ_sub, iZ_mul, iZ_neg, nz0, nzi, iZ_lt, iZ_le, iZ_inj, b2_z, b2_o, ite_bPz, ite_bPo, xb_bP, iZ_xin, if_pos, ite_self, ↓reduceIte, Int.reduceAdd, Int.reduceSub, Int.reduceMul, Int.reduceNeg, Int.reduceLT, Int.reduceLE, if_neg, ↓xri_some hst, ↓xri_some f1]
      · by_cases e : j = k
        · rw [e, ← u2]; exact y
        · exact i3 j j1 (by omega)
    · refine .inr ⟨K2, ?_, i1.tr f2, f3⟩
      rw [bP_f (c := fwS A half rest w (oX s) (oY s) (oZ s)) (fun z => y (by
        have := cond.mp z k i0 (by omega)
        rw [← u2] at this; exact this))]
      rw [bP_f y, u2] at f1
      generalize strS w = S at *
      clear cond i3 stp'
      rw [xfix_unf, sX7_isOpen_9]
      simp (disch := omega) only [xk_none, xk_inl, xk_inr, xk_ite, xri_v, xrl_v, xrv_v, xb_z0, xb_z1, xb_b2, if_true, if_false, ite_true, ite_false, iZ_lit, iZ_m1, iZ_m99, iZ_m8, iZ_add, iZ_sub, iZ_mul, iZ_neg, nz0, nzi, iZ_lt, iZ_le, iZ_inj, b2_z, b2_o, ite_bPz, ite_bPo, xb_bP, iZ_xin, if_pos, ite_self, ↓reduceIte, Int.reduceAdd, Int.reduceSub, Int.reduceMul, Int.reduceNeg, Int.reduceLT, Int.reduceLE, if_neg, ↓xri_some hst, ↓xri_some f1]) (fun K hI => by
    obtain ⟨i0, i1, i2, i3⟩ := hI
    refine ⟨K, ?_, i1, i2⟩
    rw [bP_t (cond.mpr fun k k1 k2 => i3 k k1 (by omega)), nS]
    rw [xfix_unf, sX7_isOpen_9]
    simp (disch := omega) only [xk_none, xk_inl, xk_inr, xk_ite, xri_v, xrl_v, xrv_v, xb_z0, xb_z1, xb_b2, if_true, if_false, ite_true, ite_false, iZ_lit, iZ_m1, iZ_m99, iZ_m8, iZ_add, iZ_sub, iZ_mul, iZ_neg, nz0, nzi, iZ_lt, iZ_le, iZ_inj, b2_z, b2_o, ite_bPz, ite_bPo, xb_bP, iZ_xin, if_pos, ite_self, ↓reduceIte, Int.reduceAdd, Int.reduceSub, Int.reduceMul, Int.reduceNeg, Int.reduceLT, Int.reduceLE, if_neg]) (a := 1) (M := M) n0 ⟨by omega, xSame.rf, hK, fun j j1 j2 => by omega⟩
  obtain ⟨M', r1, r2⟩ := r
  refine ⟨M', ?_, r2⟩
  refine Eq.trans ?_ r1
  have zz : ((1 : Nat) : Int) = 1 := rfl
  rw [zz]
  show xfix gX7_isOpen (0, [some (.inr (.inr (7, 0))), some (.inl (iZ (s))), some (.inl (iZ (w))), none, none], [], M) = _; rw [xfix_unf, sX7_isOpen_0]
  simp (disch := omega) only [xk_none, xk_inl, xk_inr, xk_ite, xri_v, xrl_v, xrv_v, xb_z0, xb_z1, xb_b2, if_true, if_false, ite_true, ite_false, iZ_lit, iZ_m1, iZ_m99, iZ_m8, iZ_add, iZ_sub, iZ_mul, iZ_neg, nz0, nzi, iZ_lt, iZ_le, iZ_inj, b2_z, b2_o, ite_bPz, ite_bPo, xb_bP, iZ_xin, if_pos, ite_self, ↓reduceIte, Int.reduceAdd, Int.reduceSub, Int.reduceMul, Int.reduceNeg, Int.reduceLT, Int.reduceLE, if_neg, hl]
theorem x_spreadFrom {M : xM} {A : dA} {half rest s : Nat} (hs : s < 4913) (hL : cLd M A half rest) (hK : cKn M A half rest) (hr : ofM M 2 s = true) : ∃ M', fX7_spreadFrom [.inr (.inr (7, 0)), .inl (iZ (s))] M = some (none, M') ∧ xSame (fun r => ckF r ∨ r = (46, 2) ∨ r = (46, 4)) M M' ∧ cKn M' A half rest ∧ ∀ u, (ofM M' 2 u = true ↔ ofM M 2 u = true ∨ mvE A half rest s u) ∧ (ofM M' 4 u = true ↔ ofM M 4 u = true ∨ (¬ ofM M 2 u = true ∧ mvE A half rest s u)) := by
  obtain ⟨M2, b1, b2, b3, b4⟩ := xfor_M (sg := gX7_spreadFrom) (st := fun w M => (2, [some (.inr (.inr (7, 0))), some (.inl (iZ (s))), some (.inl (iZ (w))), none], [], M)) (I := fun w K => xSame (fun r => ckF r ∨ r = (46, 2) ∨ r = (46, 4)) M K ∧ cKn K A half rest ∧ ∀ u, (ofM K 2 u = true ↔ ofM M 2 u = true ∨ ∃ v, v < w ∧ okN s v ∧ u = nxN s v ∧ frT A half rest u) ∧ (ofM K 4 u = true ↔ ofM M 4 u = true ∨ (¬ ofM M 2 u = true ∧ ∃ v, v < w ∧ okN s v ∧ u = nxN s v ∧ frT A half rest u))) (n := 6) (fun w K hw hI => by
    obtain ⟨i1, i2, i3⟩ := hI
    have hl := x_stepsLeft (M := K) hs hw
    have hst := x_strideOf (M := K) hw
    have okl := ok_left hs hw
    have sb := strS_b hw
    have ob := oA_b hs (w / 2)
    have lb : 0 ≤ 8 - sg1 w * oA s (w / 2) ∧ 8 - sg1 w * oA s (w / 2) ≤ 16 := by rcases sg1_b w with e | e <;> rw [e] <;> omega
    have ns := nx_str hs hw
    generalize 8 - sg1 w * oA s (w / 2) = far at *
    by_cases ok : okN s w
    · have far0 := okl.mp ok
      have ns := ns ok
      obtain ⟨u1, _⟩ := nx_o ok
      have t26 : xfix gX7_spreadFrom (2, [some (.inr (.inr (7, 0))), some (.inl (iZ (s))), some (.inl (iZ (w))), none], [], K) = xfix gX7_spreadFrom (26, [some (.inr (.inr (7, 0))), some (.inl (iZ (s))), some (.inl (iZ (w))), none], [.inl (iZ ((nxN s w)))], K) := by
        rw [ns]
        generalize strS w = S at *
        clear okl i3
        rw [xfix_unf, sX7_spreadFrom_2]
        simp (disch := omega) only [xk_none, xk_inl, xk_inr, xk_ite, xri_v, xrl_v, xrv_v, xb_z0, xb_z1, xb_b2, if_true, if_false, ite_true, ite_false, iZ_lit, iZ_m1, iZ_m99, iZ_m8, iZ_add, iZ_sub, iZ_mul, iZ_neg, nz0, nzi, iZ_lt, iZ_le, iZ_inj, b2_z, b2_o, ite_bPz, ite_bPo, xb_bP, iZ_xin, if_pos, ite_self, ↓reduceIte, Int.reduceAdd, Int.reduceSub, Int.reduceMul, Int.reduceNeg, Int.reduceLT, Int.reduceLE, if_neg, hl, hst]
      obtain ⟨u, eu⟩ : ∃ u, u = nxN s w := ⟨_, rfl⟩
      rw [← eu] at t26 u1 ns
      have im := x_isMarked (M := K) (k := 2) (s := u) (by omega)
      by_cases r2 : ofM K 2 u = true
      · refine ⟨K, ?_, i1, i2, fun x => ⟨?_, ?_⟩⟩
        · rw [bP_t r2] at im
          rw [t26, nS]
          clear i3 okl
          rw [xfix_unf, sX7_spreadFrom_26]
          simp (disch := omega) only [xk_none, xk_inl, xk_inr, xk_ite, xri_v, xrl_v, xrv_v, xb_z0, xb_z1, xb_b2, if_true, if_false, ite_true, ite_false, iZ_lit, iZ_m1, iZ_m99, iZ_m8, iZ_add, iZ_sub, iZ_mul, iZ_neg, nz0, nzi, iZ_lt, iZ_le, iZ_inj, b2_z, b2_o, ite_bPz, ite_bPo, xb_bP, iZ_xin, if_pos, ite_self, ↓reduceIte, Int.reduceAdd, Int.reduceSub, Int.reduceMul, Int.reduceNeg, Int.reduceLT, Int.reduceLE, if_neg, ↓xri_some im]
        · rw [(i3 x).1]
          constructor
          · rintro (z | ⟨v, v1, v2⟩)
            · exact .inl z
            · exact .inr ⟨v, by omega, v2⟩
          · rintro (z | ⟨v, v1, v2, v3, v4⟩)
            · exact .inl z
            · by_cases ev : v = w
              · subst ev
                rw [v3, ← eu]
                exact (i3 u).1.mp r2
              · exact .inr ⟨v, by omega, v2, v3, v4⟩
        · rw [(i3 x).2]
          constructor
          · rintro (z | ⟨y, v, v1, v2⟩)
            · exact .inl z
            · exact .inr ⟨y, v, by omega, v2⟩
          · rintro (z | ⟨y, v, v1, v2, v3, v4⟩)
            · exact .inl z
            · by_cases ev : v = w
              · subst ev
                have xu : x = u := by rw [v3, eu]
                rw [xu] at y ⊢
                exact .inr ⟨y, ((i3 u).1.mp r2).elim (fun z => absurd z y) id⟩
              · exact .inr ⟨y, v, by omega, v2, v3, v4⟩
      · rw [bP_f r2] at im
        obtain ⟨K1, f1, f2, f3⟩ := x_isFree (M := K) u1 (hL.same i1 (by simp) (by simp)) i2
        have r2' : ¬ ofM M 2 u = true := fun z => r2 ((i3 u).1.mpr (.inl z))
        by_cases y : frT A half rest u
        · rw [bP_t y] at f1
          obtain ⟨K2, g1, g2, g3⟩ := x_mark (M := K1) (k := 2) (s := u) (by omega)
          obtain ⟨K3, h1, h2, h3⟩ := x_mark (M := K2) (k := 4) (s := u) (by omega)
          refine ⟨K3, ?_, ((i1.tr (f2.wk fun r z => .inl z)).tr (g2.wk fun r z => .inr (.inl z))).tr (h2.wk fun r z => .inr (.inr z)), (f3.same g2 (by simp) (by simp)).same h2 (by simp) (by simp), fun x => ⟨?_, ?_⟩⟩
          · rw [t26, nS]
            clear i3 okl g3 h3
            rw [xfix_unf, sX7_spreadFrom_26]
            simp (disch := omega) only [xk_none, xk_inl, xk_inr, xk_ite, xri_v, xrl_v, xrv_v, xb_z0, xb_z1, xb_b2, if_true, if_false, ite_true, ite_false, iZ_lit, iZ_m1, iZ_m99, iZ_m8, iZ_add, iZ_sub, iZ_mul, iZ_neg, nz0, nzi, iZ_lt, iZ_le, iZ_inj, b2_z, b2_o, ite_bPz, ite_bPo, xb_bP, iZ_xin, if_pos, ite_self, ↓reduceIte, Int.reduceAdd, Int.reduceSub, Int.reduceMul, Int.reduceNeg, Int.reduceLT, Int.reduceLE, if_neg, ↓xri_some im, ↓xri_some f1, ↓xrv_some g1, ↓xrv_some h1]
          · rw [ofM_same h2 (by simp), g3, ofM_same f2 (by simp), (i3 x).1]
            constructor
            · rintro (z | z | ⟨v, v1, v2⟩)
              · exact .inr ⟨w, by omega, ok, by rw [z, eu], by rw [z]; exact y⟩
              · exact .inl z
              · exact .inr ⟨v, by omega, v2⟩
            · rintro (z | ⟨v, v1, v2, v3, v4⟩)
              · exact .inr (.inl z)
              · by_cases ev : v = w
                · subst ev; exact .inl (by rw [v3, eu])
                · exact .inr (.inr ⟨v, by omega, v2, v3, v4⟩)
          · rw [h3, ofM_same g2 (by simp), ofM_same f2 (by simp), (i3 x).2]
            constructor
            · rintro (z | z | ⟨q, v, v1, v2⟩)
              · exact .inr ⟨by rw [z]; exact r2', w, by omega, ok, by rw [z, eu], by rw [z]; exact y⟩
              · exact .inl z
              · exact .inr ⟨q, v, by omega, v2⟩
            · rintro (z | ⟨q, v, v1, v2, v3, v4⟩)
              · exact .inr (.inl z)
              · by_cases ev : v = w
                · subst ev; exact .inl (by rw [v3, eu])
                · exact .inr (.inr ⟨q, v, by omega, v2, v3, v4⟩)
        · rw [bP_f y] at f1
          refine ⟨K1, ?_, i1.tr (f2.wk fun r z => .inl z), f3, fun x => ⟨?_, ?_⟩⟩
          · rw [t26, nS]
            clear i3 okl
            rw [xfix_unf, sX7_spreadFrom_26]
            simp (disch := omega) only [xk_none, xk_inl, xk_inr, xk_ite, xri_v, xrl_v, xrv_v, xb_z0, xb_z1, xb_b2, if_true, if_false, ite_true, ite_false, iZ_lit, iZ_m1, iZ_m99, iZ_m8, iZ_add, iZ_sub, iZ_mul, iZ_neg, nz0, nzi, iZ_lt, iZ_le, iZ_inj, b2_z, b2_o, ite_bPz, ite_bPo, xb_bP, iZ_xin, if_pos, ite_self, ↓reduceIte, Int.reduceAdd, Int.reduceSub, Int.reduceMul, Int.reduceNeg, Int.reduceLT, Int.reduceLE, if_neg, ↓xri_some im, ↓xri_some f1]
          · rw [ofM_same f2 (by simp), (i3 x).1]
            constructor
            · rintro (z | ⟨v, v1, v2⟩)
              · exact .inl z
              · exact .inr ⟨v, by omega, v2⟩
            · rintro (z | ⟨v, v1, v2, v3, v4⟩)
              · exact .inl z
              · by_cases ev : v = w
                · subst ev; exact absurd (by rw [v3, ← eu] at v4; exact v4) y
                · exact .inr ⟨v, by omega, v2, v3, v4⟩
          · rw [ofM_same f2 (by simp), (i3 x).2]
            constructor
            · rintro (z | ⟨q, v, v1, v2⟩)
              · exact .inl z
              · exact .inr ⟨q, v, by omega, v2⟩
            · rintro (z | ⟨q, v, v1, v2, v3, v4⟩)
              · exact .inl z
              · by_cases ev : v = w
                · subst ev; exact absurd (by rw [v3, ← eu] at v4; exact v4) y
                · exact .inr ⟨q, v, by omega, v2, v3, v4⟩
    · have far0 : ¬ 0 < far := fun z => ok (okl.mpr z)
      have im := x_isMarked (M := K) (k := 2) (s := s) (by omega)
      rw [bP_t ((i3 s).1.mpr (.inl hr))] at im
      have t26 : xfix gX7_spreadFrom (2, [some (.inr (.inr (7, 0))), some (.inl (iZ (s))), some (.inl (iZ (w))), none], [], K) = xfix gX7_spreadFrom (26, [some (.inr (.inr (7, 0))), some (.inl (iZ (s))), some (.inl (iZ (w))), none], [.inl (iZ (s))], K) := by
        clear okl i3
        rw [xfix_unf, sX7_spreadFrom_2]
        simp (disch := omega) only [xk_none, xk_inl, xk_inr, xk_ite, xri_v, xrl_v, xrv_v, xb_z0, xb_z1, xb_b2, if_true, if_false, ite_true, ite_false, iZ_lit, iZ_m1, iZ_m99, iZ_m8, iZ_add, iZ_sub, iZ_mul, iZ_neg, nz0, nzi, iZ_lt, iZ_le, iZ_inj, b2_z, b2_o, ite_bPz, ite_bPo, xb_bP, iZ_xin, if_pos, ite_self, ↓reduceIte, Int.reduceAdd, Int.reduceSub, Int.reduceMul, Int.reduceNeg, Int.reduceLT, Int.reduceLE, if_neg, hl, hst]
      refine ⟨K, ?_, i1, i2, fun x => ⟨?_, ?_⟩⟩
      · rw [t26, nS]
        clear i3 okl
        rw [xfix_unf, sX7_spreadFrom_26]
        simp (disch := omega) only [xk_none, xk_inl, xk_inr, xk_ite, xri_v, xrl_v, xrv_v, xb_z0, xb_z1, xb_b2, if_true, if_false, ite_true, ite_false, iZ_lit, iZ_m1, iZ_m99, iZ_m8, iZ_add, iZ_sub, iZ_mul, iZ_neg, nz0, nzi, iZ_lt, iZ_le, iZ_inj, b2_z, b2_o, ite_bPz, ite_bPo, xb_bP, iZ_xin, if_pos, ite_self, ↓reduceIte, Int.reduceAdd, Int.reduceSub, Int.reduceMul, Int.reduceNeg, Int.reduceLT, Int.reduceLE, if_neg, ↓xri_some im]
      · rw [(i3 x).1]
        constructor
        · rintro (z | ⟨v, v1, v2⟩)
          · exact .inl z
          · exact .inr ⟨v, by omega, v2⟩
        · rintro (z | ⟨v, v1, v2, v3⟩)
          · exact .inl z
          · exact .inr ⟨v, Nat.lt_of_le_of_ne (by omega) (fun ev => ok (by rw [← ev]; exact v2)), v2, v3⟩
      · rw [(i3 x).2]
        constructor
        · rintro (z | ⟨q, v, v1, v2⟩)
          · exact .inl z
          · exact .inr ⟨q, v, by omega, v2⟩
        · rintro (z | ⟨q, v, v1, v2, v3⟩)
          · exact .inl z
          · exact .inr ⟨q, v, Nat.lt_of_le_of_ne (by omega) (fun ev => ok (by rw [← ev]; exact v2)), v2, v3⟩) (a := 0) (M := M) (by omega) ⟨xSame.rf, hK, fun u => ⟨⟨.inl, fun z => z.elim id fun ⟨v, v1, _⟩ => by omega⟩, ⟨.inl, fun z => z.elim id fun ⟨_, v, v1, _⟩ => by omega⟩⟩⟩
  refine ⟨M2, ?_, b2, b3, b4⟩
  have zz : ((0 : Nat) : Int) = 0 := rfl
  have e6 : ((6 : Nat) : Int) = 6 := rfl
  rw [zz, e6] at b1
  show xfix gX7_spreadFrom (0, [some (.inr (.inr (7, 0))), some (.inl (iZ (s))), none, none], [], M) = _; rw [xfix_unf, sX7_spreadFrom_0]
  simp (disch := omega) only [xk_none, xk_inl, xk_inr, xk_ite, xri_v, xrl_v, xrv_v, xb_z0, xb_z1, xb_b2, if_true, if_false, ite_true, ite_false, iZ_lit, iZ_m1, iZ_m99, iZ_m8, iZ_add, iZ_sub, iZ_mul, iZ_neg, nz0, nzi, iZ_lt, iZ_le, iZ_inj, b2_z, b2_o, ite_bPz, ite_bPo, xb_bP, iZ_xin, if_pos, ite_self, ↓reduceIte, Int.reduceAdd, Int.reduceSub, Int.reduceMul, Int.reduceNeg, Int.reduceLT, Int.reduceLE, if_neg]
  refine Eq.trans b1 ?_
  rw [xfix_unf, sX7_spreadFrom_2]
  simp (disch := omega) only [xk_none, xk_inl, xk_inr, xk_ite, xri_v, xrl_v, xrv_v, xb_z0, xb_z1, xb_b2, if_true, if_false, ite_true, ite_false, iZ_lit, iZ_m1, iZ_m99, iZ_m8, iZ_add, iZ_sub, iZ_mul, iZ_neg, nz0, nzi, iZ_lt, iZ_le, iZ_inj, b2_z, b2_o, ite_bPz, ite_bPo, xb_bP, iZ_xin, if_pos, ite_self, ↓reduceIte, Int.reduceAdd, Int.reduceSub, Int.reduceMul, Int.reduceNeg, Int.reduceLT, Int.reduceLE, if_neg]
