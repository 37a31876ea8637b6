/-! the reference: pulling, likeness -/
def sgn (s : Nat) : Int := if s % 2 = 0 then 1 else -1
/-- another of the half's cells stands before it -/
def bfr (A : dA) (half ax : Nat) (s : Int) (c o : Nat) : Prop := inH A half o ∧ alg o ((ax + 1) % 3) = alg c ((ax + 1) % 3) ∧ alg o ((ax + 2) % 3) = alg c ((ax + 2) % 3) ∧ s * alg c ax < s * alg o ax
/-- a cell of the rest stands before the place -/
def cvr (A : dA) (rest ax : Nat) (s u v at' : Int) (o : Nat) : Prop := inH A rest o ∧ (alg o ((ax + 1) % 3) : Int) = u ∧ (alg o ((ax + 2) % 3) : Int) = v ∧ s * at' < s * alg o ax
def hdS (A : dA) (c half rest w d side : Nat) : Prop := (∀ o, o < 512 → ¬ bfr A half (side / 2) (sgn side) c o) ∧ ∃ o, o < 512 ∧ cvr A rest (side / 2) (sgn side) (alg c ((side / 2 + 1) % 3) + d * stp w ((side / 2 + 1) % 3)) (alg c ((side / 2 + 2) % 3) + d * stp w ((side / 2 + 2) % 3)) (alg c (side / 2) + d * stp w (side / 2)) o
theorem sgn_m {s : Nat} {a b : Int} : sgn s * a < sgn s * b ↔ (if s % 2 = 0 then a < b else b < a) := by
  unfold sgn
  split <;> omega
theorem hd_loop {A : dA} {M : xM} (h : mA M A) {c half rest ax : Nat} (hc : c < 512) (h1 : half < 512) (h2 : rest < 512) (hax : ax < 3) {side : Nat} {u v at' : Int} (hu : -100 ≤ u ∧ u ≤ 100) (hv : -100 ≤ v ∧ v ≤ 100) (hat : -100 ≤ at' ∧ at' ≤ 100) : xfix gX12_hides (99, [some (.inr (.inr (12, 0))), some (.inl (iZ (c))), some (.inl (iZ (half))), some (.inl (iZ (rest))), none, none, none, some (.inl (iZ (ax))), some (.inl (iZ (((ax + 1) % 3 : Nat)))), some (.inl (iZ (((ax + 2) % 3 : Nat)))), some (.inl (iZ ((sgn side)))), some (.inl (iZ (u))), some (.inl (iZ (v))), some (.inl (iZ (at'))), some (.inl (iZ ((0 : Int)))), some (.inl (iZ ((0 : Nat))))], [], M) = some (some (.inl (bP ((∀ o, o < 512 → ¬ bfr A half ax (sgn side) c o) ∧ ∃ o, o < 512 ∧ cvr A rest ax (sgn side) u v at' o))), M) := by
  have hx := xfor_all (sg := gX12_hides) (st := fun i => (99, [some (.inr (.inr (12, 0))), some (.inl (iZ (c))), some (.inl (iZ (half))), some (.inl (iZ (rest))), none, none, none, some (.inl (iZ (ax))), some (.inl (iZ (((ax + 1) % 3 : Nat)))), some (.inl (iZ (((ax + 2) % 3 : Nat)))), some (.inl (iZ ((sgn side)))), some (.inl (iZ (u))), some (.inl (iZ (v))), some (.inl (iZ (at'))), some (.inl (bP ((∃ o, o < i ∧ cvr A rest ax (sgn side) u v at' o)))), some (.inl (iZ (i)))], [], M)) (R := fun i => some (some (.inl (bP ((∀ o, i ≤ o → o < 512 → ¬ bfr A half ax (sgn side) c o) ∧ ∃ o, o < 512 ∧ cvr A rest ax (sgn side) u v at' o))), M)) (n := 512) (fun i hi ih => by
    have a1 := alg_lt hi ax
    have a2 := alg_lt hi ((ax + 1) % 3)
    have a3 := alg_lt hi ((ax + 2) % 3)
    have c1 := alg_lt hc ax
    have c2 := alg_lt hc ((ax + 1) % 3)
    have c3 := alg_lt hc ((ax + 2) % 3)
    have x1 : (ax + 1) % 3 < 3 := by omega
    have x2 : (ax + 2) % 3 < 3 := by omega
    have s1 : -1 ≤ sgn side ∧ sgn side ≤ 1 := by unfold sgn; split <;> omega
    have m1 : -100 ≤ sgn side * (alg i ax : Int) ∧ sgn side * (alg i ax : Int) ≤ 100 := by unfold sgn; split <;> omega
    have m2 : -100 ≤ sgn side * (alg c ax : Int) ∧ sgn side * (alg c ax : Int) ≤ 100 := by unfold sgn; split <;> omega
    have m3 : -100 ≤ sgn side * at' ∧ sgn side * at' ≤ 100 := by unfold sgn; split <;> omega
    have e173 : ¬ bfr A half ax (sgn side) c i → xfix gX12_hides (173, [some (.inr (.inr (12, 0))), some (.inl (iZ (c))), some (.inl (iZ (half))), some (.inl (iZ (rest))), none, none, none, some (.inl (iZ (ax))), some (.inl (iZ (((ax + 1) % 3 : Nat)))), some (.inl (iZ (((ax + 2) % 3 : Nat)))), some (.inl (iZ ((sgn side)))), some (.inl (iZ (u))), some (.inl (iZ (v))), some (.inl (iZ (at'))), some (.inl (bP ((∃ o, o < i ∧ cvr A rest ax (sgn side) u v at' o)))), some (.inl (iZ (i)))], [], M) = some (some (.inl (bP ((∀ o, i ≤ o → o < 512 → ¬ bfr A half ax (sgn side) c o) ∧ ∃ o, o < 512 ∧ cvr A rest ax (sgn side) u v at' o))), M) := fun hnb => by
      rw [all_from hi]
      refine Eq.trans ?_ (ih.trans (rP ⟨fun z => ⟨⟨hnb, z.1⟩, z.2⟩, fun z => ⟨z.1.2, z.2⟩⟩))
      rw [nS]
      rw [xfix_unf, sX12_hides_173]
      simp (disch := omega) only [xk_none, xk_inl, xk_inr, xk_ite, xri_v, xrl_v, xrv_v, xb_z0, xb_z1, xb_b2, if_true, if_false, ite_true, ite_false, iZ_lit, iZ_m1, iZ_m99, iZ_m8, iZ_add, iZ_sub, iZ_mul, iZ_neg, nz0, nzi, iZ_lt, iZ_le, iZ_inj, b2_z, b2_o, ite_bPz, ite_bPo, xb_bP, iZ_xin, if_pos, ite_self, ↓reduceIte, Int.reduceAdd, Int.reduceSub, Int.reduceMul, Int.reduceNeg, Int.reduceLT, Int.reduceLE, if_neg, nS, iZ_clampN, iZ_bit, iZ_one, iZ_and, iZ_or, iZ_ndn, m_isOf h hi h2, m_along M hi hax, m_along M hi x1, m_along M hi x2]
      by_cases y0 : ∃ o, o < i ∧ cvr A rest ax (sgn side) u v at' o
      · rw [if_pos y0, bP_t (c := ∃ o, o < i + 1 ∧ cvr A rest ax (sgn side) u v at' o) (by obtain ⟨o, o1, o2⟩ := y0; exact ⟨o, by omega, o2⟩)]
      · rw [if_neg y0]
        have hno : ¬ cvr A rest ax (sgn side) u v at' i → bP (∃ o, o < i + 1 ∧ cvr A rest ax (sgn side) u v at' o) = iZ 0 := fun z => bP_f (fun ⟨o, o1, o2⟩ => by
          by_cases e : o = i
          · subst e; exact z o2
          · exact y0 ⟨o, by omega, o2⟩)
        by_cases y1 : inH A rest i
        · rw [if_pos y1]
          by_cases y2 : (alg i ((ax + 1) % 3) : Int) = u
          · rw [if_pos y2]
            by_cases y3 : (alg i ((ax + 2) % 3) : Int) = v
            · rw [if_pos y3]
              by_cases y4 : sgn side * at' < sgn side * (alg i ax : Int)
              · rw [if_neg (by omega), bP_t (c := ∃ o, o < i + 1 ∧ cvr A rest ax (sgn side) u v at' o) ⟨i, by omega, y1, y2, y3, y4⟩]
              · rw [if_pos (by omega), hno (fun z => y4 z.2.2.2)]
            · rw [if_neg y3, hno (fun z => y3 z.2.2.1)]
          · rw [if_neg y2, hno (fun z => y2 z.2.1)]
        · rw [if_neg y1, hno (fun z => y1 z.1)]
    rw [xfix_unf, sX12_hides_99]
    simp (disch := omega) only [xk_none, xk_inl, xk_inr, xk_ite, xri_v, xrl_v, xrv_v, xb_z0, xb_z1, xb_b2, if_true, if_false, ite_true, ite_false, iZ_lit, iZ_m1, iZ_m99, iZ_m8, iZ_add, iZ_sub, iZ_mul, iZ_neg, nz0, nzi, iZ_lt, iZ_le, iZ_inj, b2_z, b2_o, ite_bPz, ite_bPo, xb_bP, iZ_xin, if_pos, ite_self, ↓reduceIte, Int.reduceAdd, Int.reduceSub, Int.reduceMul, Int.reduceNeg, Int.reduceLT, Int.reduceLE, if_neg, nS, iZ_clampN, iZ_bit, iZ_one, iZ_and, iZ_or, iZ_ndn, m_isOf h hi h1, m_along M hi hax, m_along M hi x1, m_along M hi x2, m_along M hc hax, m_along M hc x1, m_along M hc x2]
    by_cases y1 : inH A half i
    · rw [if_pos y1]
      by_cases y2 : alg i ((ax + 1) % 3) = alg c ((ax + 1) % 3)
      · rw [if_pos y2]
        by_cases y3 : alg i ((ax + 2) % 3) = alg c ((ax + 2) % 3)
        · rw [if_pos y3]
          by_cases y4 : sgn side * (alg c ax : Int) < sgn side * (alg i ax : Int)
          · rw [if_neg (by omega), bP_f (c := (∀ o, i ≤ o → o < 512 → ¬ bfr A half ax (sgn side) c o) ∧ ∃ o, o < 512 ∧ cvr A rest ax (sgn side) u v at' o) (fun z => z.1 i (Nat.le_refl _) hi ⟨y1, y2, y3, y4⟩)]
          · rw [if_pos (by omega)]; exact e173 (fun z => y4 z.2.2.2)
        · rw [if_neg y3]; exact e173 (fun z => y3 z.2.2.1)
      · rw [if_neg y2]; exact e173 (fun z => y2 z.2.1)
    · rw [if_neg y1]; exact e173 (fun z => y1 z.1)) (by
    have e512 : ((512 : Nat) : Int) = 512 := rfl
    rw [xfix_unf, sX12_hides_99]
    simp (disch := omega) only [xk_none, xk_inl, xk_inr, xk_ite, xri_v, xrl_v, xrv_v, xb_z0, xb_z1, xb_b2, if_true, if_false, ite_true, ite_false, iZ_lit, iZ_m1, iZ_m99, iZ_m8, iZ_add, iZ_sub, iZ_mul, iZ_neg, nz0, nzi, iZ_lt, iZ_le, iZ_inj, b2_z, b2_o, ite_bPz, ite_bPo, xb_bP, iZ_xin, if_pos, ite_self, ↓reduceIte, Int.reduceAdd, Int.reduceSub, Int.reduceMul, Int.reduceNeg, Int.reduceLT, Int.reduceLE, if_neg, e512]
    exact rP ⟨fun z => ⟨fun o o1 o2 => by omega, z⟩, fun z => z.2⟩) (i := 0) (by omega)
  rw [bP_f (c := ∃ o, o < 0 ∧ cvr A rest ax (sgn side) u v at' o) (fun ⟨o, o1, _⟩ => by omega)] at hx
  refine hx.trans (rP ?_)
  exact ⟨fun z => ⟨fun o o1 => z.1 o (by omega) o1, z.2⟩, fun z => ⟨fun o _ o1 => z.1 o o1, z.2⟩⟩
theorem m_hides {A : dA} {M : xM} (h : mA M A) {c half rest w d side : Nat} (hc : c < 512) (h1 : half < 512) (h2 : rest < 512) (hw : w < 6) (hd : d < 17) (hs : side < 6) : fX12_hides [.inr (.inr (12, 0)), .inl (iZ (c)), .inl (iZ (half)), .inl (iZ (rest)), .inl (iZ (w)), .inl (iZ (d)), .inl (iZ (side))] M = some (some (.inl (bP (hdS A c half rest w d side))), M) := by
  have hax : side / 2 < 3 := by omega
  have x1 : (side / 2 + 1) % 3 < 3 := by omega
  have x2 : (side / 2 + 2) % 3 < 3 := by omega
  have bd : ∀ a, -100 ≤ (alg c a : Int) + d * stp w a ∧ (alg c a : Int) + d * stp w a ≤ 100 := fun a => by
    have h3 := alg_lt hc a
    have h4 := stp_le w a
    rcases (by omega : stp w a = -1 ∨ stp w a = 0 ∨ stp w a = 1) with e | e | e <;> rw [e] <;> omega
  have key := hd_loop h hc h1 h2 hax (side := side) (bd ((side / 2 + 1) % 3)) (bd ((side / 2 + 2) % 3)) (bd (side / 2))
  refine Eq.trans ?_ key
  have e34 : xfix gX12_hides (34, [some (.inr (.inr (12, 0))), some (.inl (iZ (c))), some (.inl (iZ (half))), some (.inl (iZ (rest))), some (.inl (iZ (w))), some (.inl (iZ (d))), none, some (.inl (iZ ((side / 2 : Nat)))), some (.inl (iZ (((side / 2 + 1) % 3 : Nat)))), some (.inl (iZ (((side / 2 + 2) % 3 : Nat)))), none, none, none, none, none, none], [.inl (iZ ((sgn side)))], M) = xfix gX12_hides (99, [some (.inr (.inr (12, 0))), some (.inl (iZ (c))), some (.inl (iZ (half))), some (.inl (iZ (rest))), none, none, none, some (.inl (iZ ((side / 2 : Nat)))), some (.inl (iZ (((side / 2 + 1) % 3 : Nat)))), some (.inl (iZ (((side / 2 + 2) % 3 : Nat)))), some (.inl (iZ ((sgn side)))), some (.inl (iZ (((alg c ((side / 2 + 1) % 3) : Int) + d * stp w ((side / 2 + 1) % 3))))), some (.inl (iZ (((alg c ((side / 2 + 2) % 3) : Int) + d * stp w ((side / 2 + 2) % 3))))), some (.inl (iZ (((alg c (side / 2) : Int) + d * stp w (side / 2))))), some (.inl (iZ ((0 : Int)))), some (.inl (iZ ((0 : Nat))))], [], M) := by
    rw [xfix_unf, sX12_hides_34]
    simp (disch := omega) only [xk_none, xk_inl, xk_inr, xk_ite, xri_v, xrl_v, xrv_v, xb_z0, xb_z1, xb_b2, if_true, if_false, ite_true, ite_false, iZ_lit, iZ_m1, iZ_m99, iZ_m8, iZ_add, iZ_sub, iZ_mul, iZ_neg, nz0, nzi, iZ_lt, iZ_le, iZ_inj, b2_z, b2_o, ite_bPz, ite_bPo, xb_bP, iZ_xin, if_pos, ite_self, ↓reduceIte, Int.reduceAdd, Int.reduceSub, Int.reduceMul, Int.reduceNeg, Int.reduceLT, Int.reduceLE, if_neg, nS, iZ_clampN, iZ_bit, iZ_one, iZ_and, iZ_or, iZ_ndn, m_along M hc hax, m_along M hc x1, m_along M hc x2, m_step M hw hax, m_step M hw x1, m_step M hw x2]
    rfl
  rw [← e34]
  have q0 : (side : Int) / 2 = ((side / 2 : Nat) : Int) := by omega
  have q1 : (((side / 2 : Nat) : Int) + 1) - (((side / 2 : Nat) : Int) + 1) / 3 * 3 = (((side / 2 + 1) % 3 : Nat) : Int) := by omega
  have q2 : (((side / 2 : Nat) : Int) + 2) - (((side / 2 : Nat) : Int) + 2) / 3 * 3 = (((side / 2 + 2) % 3 : Nat) : Int) := by omega
  show xfix gX12_hides (0, [some (.inr (.inr (12, 0))), some (.inl (iZ (c))), some (.inl (iZ (half))), some (.inl (iZ (rest))), some (.inl (iZ (w))), some (.inl (iZ (d))), some (.inl (iZ (side))), none, none, none, none, none, none, none, none, none], [], M) = _; rw [xfix_unf, sX12_hides_0]
  simp (disch := omega) only [xk_none, xk_inl, xk_inr, xk_ite, xri_v, xrl_v, xrv_v, xb_z0, xb_z1, xb_b2, if_true, if_false, ite_true, ite_false, iZ_lit, iZ_m1, iZ_m99, iZ_m8, iZ_add, iZ_sub, iZ_mul, iZ_neg, nz0, nzi, iZ_lt, iZ_le, iZ_inj, b2_z, b2_o, ite_bPz, ite_bPo, xb_bP, iZ_xin, if_pos, ite_self, ↓reduceIte, Int.reduceAdd, Int.reduceSub, Int.reduceMul, Int.reduceNeg, Int.reduceLT, Int.reduceLE, if_neg, nS, iZ_clampN, iZ_bit, iZ_one, iZ_and, iZ_or, iZ_ndn, iZ_div, q0, q1, q2, z2]
  unfold sgn
  by_cases e : side % 2 = 0
  · rw [if_pos e, if_pos (by omega)]
  · rw [if_neg e, if_neg (by omega)]
def clr (A : dA) (half rest w d side : Nat) : Prop := ∀ c, c < 512 → inH A half c → ¬ hdS A c half rest w d side
theorem m_isClear {A : dA} {M : xM} (h : mA M A) {half rest w d side : Nat} (h1 : half < 512) (h2 : rest < 512) (hw : w < 6) (hd : d < 17) (hs : side < 6) : fX12_isClear [.inr (.inr (12, 0)), .inl (iZ (half)), .inl (iZ (rest)), .inl (iZ (w)), .inl (iZ (d)), .inl (iZ (side))] M = some (some (.inl (bP (clr A half rest w d side))), M) := by
  have hx := xfor_all (sg := gX12_isClear) (st := fun i => (3, [some (.inr (.inr (12, 0))), some (.inl (iZ (half))), some (.inl (iZ (rest))), some (.inl (iZ (w))), some (.inl (iZ (d))), some (.inl (iZ (side))), some (.inl (iZ (i)))], [], M)) (R := fun i => some (some (.inl (bP (∀ c, i ≤ c → c < 512 → inH A half c → ¬ hdS A c half rest w d side))), M)) (n := 512) (fun i hi ih => by
    rw [all_from hi]
    rw [nS] at ih
    rw [xfix_unf, sX12_isClear_3]
    simp (disch := omega) only [xk_none, xk_inl, xk_inr, xk_ite, xri_v, xrl_v, xrv_v, xb_z0, xb_z1, xb_b2, if_true, if_false, ite_true, ite_false, iZ_lit, iZ_m1, iZ_m99, iZ_m8, iZ_add, iZ_sub, iZ_mul, iZ_neg, nz0, nzi, iZ_lt, iZ_le, iZ_inj, b2_z, b2_o, ite_bPz, ite_bPo, xb_bP, iZ_xin, if_pos, ite_self, ↓reduceIte, Int.reduceAdd, Int.reduceSub, Int.reduceMul, Int.reduceNeg, Int.reduceLT, Int.reduceLE, if_neg, nS, iZ_clampN, iZ_bit, iZ_one, iZ_and, iZ_or, iZ_ndn, m_isOf h hi h1, m_hides h hi h1 h2 hw hd hs, ih]
    by_cases y1 : inH A half i
    · rw [if_pos y1]
      by_cases y2 : hdS A i half rest w d side
      · rw [if_pos y2, bP_f (fun z => z.1 y1 y2)]
      · rw [if_neg y2]; exact rP ⟨fun z => ⟨fun _ => y2, z⟩, fun z => z.2⟩
    · rw [if_neg y1]; exact rP ⟨fun z => ⟨fun y => absurd y y1, z⟩, fun z => z.2⟩) (by
    have e512 : ((512 : Nat) : Int) = 512 := rfl
    rw [xfix_unf, sX12_isClear_3]
    simp (disch := omega) only [xk_none, xk_inl, xk_inr, xk_ite, xri_v, xrl_v, xrv_v, xb_z0, xb_z1, xb_b2, if_true, if_false, ite_true, ite_false, iZ_lit, iZ_m1, iZ_m99, iZ_m8, iZ_add, iZ_sub, iZ_mul, iZ_neg, nz0, nzi, iZ_lt, iZ_le, iZ_inj, b2_z, b2_o, ite_bPz, ite_bPo, xb_bP, iZ_xin, if_pos, ite_self, ↓reduceIte, Int.reduceAdd, Int.reduceSub, Int.reduceMul, Int.reduceNeg, Int.reduceLT, Int.reduceLE, if_neg, e512]
    rw [bP_t (fun c h1 h2 => by omega)]) (i := 0) (by omega)
  show xfix gX12_isClear (0, [some (.inr (.inr (12, 0))), some (.inl (iZ (half))), some (.inl (iZ (rest))), some (.inl (iZ (w))), some (.inl (iZ (d))), some (.inl (iZ (side))), none], [], M) = _; rw [xfix_unf, sX12_isClear_0]
  simp (disch := omega) only [xk_none, xk_inl, xk_inr, xk_ite, xri_v, xrl_v, xrv_v, xb_z0, xb_z1, xb_b2, if_true, if_false, ite_true, ite_false, iZ_lit, iZ_m1, iZ_m99, iZ_m8, iZ_add, iZ_sub, iZ_mul, iZ_neg, nz0, nzi, iZ_lt, iZ_le, iZ_inj, b2_z, b2_o, ite_bPz, ite_bPo, xb_bP, iZ_xin, if_pos, ite_self, ↓reduceIte, Int.reduceAdd, Int.reduceSub, Int.reduceMul, Int.reduceNeg, Int.reduceLT, Int.reduceLE, if_neg]
  refine hx.trans (rP ⟨fun z c hc => z c (by omega) hc, fun z c _ hc => z c hc⟩)
noncomputable def sPull (A : dA) (a b w s : Int) : Int := vI (vF A a b ∧ vW w ∧ vW s) (lsI (fun d => clr A b.toNat (ndn a.toNat b.toNat) w.toNat d s.toNat) 17)
theorem q_pull {A : dA} {M : xM} (h : mQ M A) {a b w s : Int} (ha : r32 a) (hb : r32 b) (hw : r32 w) (hs : r32 s) : qR M A (fX12_pull [.inr (.inr (12, 0)), .inl (iZ (a)), .inl (iZ (b)), .inl (iZ (w)), .inl (iZ (s))] M) (.inl (iZ (sPull A a b w s))) := by
  have hP := pow9 h.A.ok.P
  refine qR.of h ?_
  unfold sPull
  by_cases e1 : vF A a b
  · by_cases e2 : vW w
    · by_cases e3 : vW s
      · rw [vI_t ⟨e1, e2, e3⟩]
        have e1' := e1
        obtain ⟨a, b, rfl, rfl, x1, x2, x3, x4⟩ := e1'
        obtain ⟨w, rfl, hw2⟩ := e2.n
        obtain ⟨s, rfl, hs2⟩ := e3.n
        have ena : ((a : Int)).toNat = a := by omega
        have enb : ((b : Int)).toNat = b := by omega
        have enw : ((w : Int)).toNat = w := by omega
        have ens : ((s : Int)).toNat = s := by omega
        rw [ena, enb, enw, ens]
        have hle := ndn_le a b
        have hx := xfor_all (sg := gX12_pull) (st := fun i => (29, [some (.inr (.inr (12, 0))), some (.inl (iZ (a))), some (.inl (iZ (b))), some (.inl (iZ (w))), some (.inl (iZ (s))), some (.inl (iZ (i)))], [], M)) (R := fun i => some (some (.inl (iZ (lsI (fun d => i ≤ d ∧ clr A b (ndn a b) w d s) 17))), M)) (n := 17) (fun i hi ih => by
          rw [nS] at ih
          rw [xfix_unf, sX12_pull_29]
          simp (disch := omega) only [xk_none, xk_inl, xk_inr, xk_ite, xri_v, xrl_v, xrv_v, xb_z0, xb_z1, xb_b2, if_true, if_false, ite_true, ite_false, iZ_lit, iZ_m1, iZ_m99, iZ_m8, iZ_add, iZ_sub, iZ_mul, iZ_neg, nz0, nzi, iZ_lt, iZ_le, iZ_inj, b2_z, b2_o, ite_bPz, ite_bPo, xb_bP, iZ_xin, if_pos, ite_self, ↓reduceIte, Int.reduceAdd, Int.reduceSub, Int.reduceMul, Int.reduceNeg, Int.reduceLT, Int.reduceLE, if_neg, nS, iZ_clampN, iZ_bit, iZ_one, iZ_and, iZ_or, iZ_ndn, m_isClear h.A (by omega : b < 512) (by omega : ndn a b < 512) hw2 hi hs2, ih]
          by_cases y : clr A b (ndn a b) w i s
          · rw [if_pos y]
            unfold lsI
            rw [lst_eq (k := i) (by omega) (fun j hj z => by omega) (fun _ => ⟨Nat.le_refl _, y⟩), if_pos hi]
          · rw [if_neg y, lsI_cg (p := fun d => i ≤ d ∧ clr A b (ndn a b) w d s) (q := fun d => i + 1 ≤ d ∧ clr A b (ndn a b) w d s) (fun d _ => ⟨fun z => ⟨by
              by_cases e : d = i
              · subst e; exact absurd z.2 y
              · omega, z.2⟩, fun z => ⟨by omega, z.2⟩⟩)]) (by
          rw [lsI_cg (p := fun d => 17 ≤ d ∧ clr A b (ndn a b) w d s) (q := fun _ => False) (fun d hd => ⟨fun z => by omega, False.elim⟩), lsI_F]
          rw [xfix_unf, sX12_pull_29]
          simp (disch := omega) only [xk_none, xk_inl, xk_inr, xk_ite, xri_v, xrl_v, xrv_v, xb_z0, xb_z1, xb_b2, if_true, if_false, ite_true, ite_false, iZ_lit, iZ_m1, iZ_m99, iZ_m8, iZ_add, iZ_sub, iZ_mul, iZ_neg, nz0, nzi, iZ_lt, iZ_le, iZ_inj, b2_z, b2_o, ite_bPz, ite_bPo, xb_bP, iZ_xin, if_pos, ite_self, ↓reduceIte, Int.reduceAdd, Int.reduceSub, Int.reduceMul, Int.reduceNeg, Int.reduceLT, Int.reduceLE, if_neg]) (i := 0) (by omega)
        rw [lsI_cg (p := fun d => 0 ≤ d ∧ clr A b (ndn a b) w d s) (q := fun d => clr A b (ndn a b) w d s) (fun d _ => ⟨fun z => z.2, fun z => ⟨by omega, z⟩⟩)] at hx
        show xfix gX12_pull (0, [some (.inr (.inr (12, 0))), some (.inl (iZ (a))), some (.inl (iZ (b))), some (.inl (iZ (w))), some (.inl (iZ (s))), none], [], M) = _; rw [xfix_unf, sX12_pull_0]
        rw [k_isHalf h.A ha hb, xri_v, k_isWay hw]
        simp (disch := omega) only [xk_none, xk_inl, xk_inr, xk_ite, xri_v, xrl_v, xrv_v, xb_z0, xb_z1, xb_b2, if_true, if_false, ite_true, ite_false, iZ_lit, iZ_m1, iZ_m99, iZ_m8, iZ_add, iZ_sub, iZ_mul, iZ_neg, nz0, nzi, iZ_lt, iZ_le, iZ_inj, b2_z, b2_o, ite_bPz, ite_bPo, xb_bP, iZ_xin, if_pos, ite_self, ↓reduceIte, Int.reduceAdd, Int.reduceSub, Int.reduceMul, Int.reduceNeg, Int.reduceLT, Int.reduceLE, if_neg, e1, e2, k_isWay hs, e3]
        exact hx
      · rw [vI_f (fun z => e3 z.2.2)]
        show xfix gX12_pull (0, [some (.inr (.inr (12, 0))), some (.inl (iZ (a))), some (.inl (iZ (b))), some (.inl (iZ (w))), some (.inl (iZ (s))), none], [], M) = _; rw [xfix_unf, sX12_pull_0]
        rw [k_isHalf h.A ha hb, xri_v, k_isWay hw]
        simp (disch := omega) only [xk_none, xk_inl, xk_inr, xk_ite, xri_v, xrl_v, xrv_v, xb_z0, xb_z1, xb_b2, if_true, if_false, ite_true, ite_false, iZ_lit, iZ_m1, iZ_m99, iZ_m8, iZ_add, iZ_sub, iZ_mul, iZ_neg, nz0, nzi, iZ_lt, iZ_le, iZ_inj, b2_z, b2_o, ite_bPz, ite_bPo, xb_bP, iZ_xin, if_pos, ite_self, ↓reduceIte, Int.reduceAdd, Int.reduceSub, Int.reduceMul, Int.reduceNeg, Int.reduceLT, Int.reduceLE, if_neg, e1, e2, k_isWay hs, e3]
    · rw [vI_f (fun z => e2 z.2.1)]
      show xfix gX12_pull (0, [some (.inr (.inr (12, 0))), some (.inl (iZ (a))), some (.inl (iZ (b))), some (.inl (iZ (w))), some (.inl (iZ (s))), none], [], M) = _; rw [xfix_unf, sX12_pull_0]
      simp (disch := omega) only [xk_none, xk_inl, xk_inr, xk_ite, xri_v, xrl_v, xrv_v, xb_z0, xb_z1, xb_b2, if_true, if_false, ite_true, ite_false, iZ_lit, iZ_m1, iZ_m99, iZ_m8, iZ_add, iZ_sub, iZ_mul, iZ_neg, nz0, nzi, iZ_lt, iZ_le, iZ_inj, b2_z, b2_o, ite_bPz, ite_bPo, xb_bP, iZ_xin, if_pos, ite_self, ↓reduceIte, Int.reduceAdd, Int.reduceSub, Int.reduceMul, Int.reduceNeg, Int.reduceLT, Int.reduceLE, if_neg, k_isHalf h.A ha hb, e1, k_isWay hw, e2]
  · rw [vI_f (fun z => e1 z.1)]
    show xfix gX12_pull (0, [some (.inr (.inr (12, 0))), some (.inl (iZ (a))), some (.inl (iZ (b))), some (.inl (iZ (w))), some (.inl (iZ (s))), none], [], M) = _; rw [xfix_unf, sX12_pull_0]
    simp (disch := omega) only [xk_none, xk_inl, xk_inr, xk_ite, xri_v, xrl_v, xrv_v, xb_z0, xb_z1, xb_b2, if_true, if_false, ite_true, ite_false, iZ_lit, iZ_m1, iZ_m99, iZ_m8, iZ_add, iZ_sub, iZ_mul, iZ_neg, nz0, nzi, iZ_lt, iZ_le, iZ_inj, b2_z, b2_o, ite_bPz, ite_bPo, xb_bP, iZ_xin, if_pos, ite_self, ↓reduceIte, Int.reduceAdd, Int.reduceSub, Int.reduceMul, Int.reduceNeg, Int.reduceLT, Int.reduceLE, if_neg, k_isHalf h.A ha hb, e1]
