/-! the reference: what stands and what must be held -/
noncomputable def lowS (A : dA) (p : Nat) : Nat := lst (fun z => ∃ c, c < 512 ∧ c / 64 = z ∧ aC A c = p) 8
noncomputable def belS (A : dA) (p : Nat) : Nat := msk (fun q => ∃ c, 64 ≤ c ∧ c < 512 ∧ aC A c = p ∧ aC A (c - 64) = q ∧ q ≠ p) 9
theorem lowS_le (A : dA) (p : Nat) : lowS A p ≤ 8 := lst_le _ 8
theorem belS_lt (A : dA) (p : Nat) : belS A p < 512 := msk_lt _ 9
/-- the rows of what lies below are those of the thing -/
def mW (M : xM) (A : dA) : Prop := (∀ p, p < aP A → xI M (142, 0) p = iZ (lowS A p)) ∧ ∀ p, p < aP A → xI M (143, 0) p = iZ (belS A p)
theorem mW.same {M M' : xM} {A : dA} {P : xR → Prop} (h : mW M A) (hs : xSame P M M') (h1 : ¬ P (142, 0)) (h2 : ¬ P (143, 0)) : mW M' A := ⟨fun p hp => by rw [(hs _ h1).1]; exact h.1 p hp, fun p hp => by rw [(hs _ h2).1]; exact h.2 p hp⟩
/-- the least of a heap's lowest cells -/
noncomputable def flr (A : dA) (heap : Nat) : Nat → Nat
  | 0 => 8
  | i + 1 => if heap.testBit i = true ∧ lowS A i < flr A heap i then lowS A i else flr A heap i
theorem flr_le (A : dA) (heap : Nat) : ∀ i, flr A heap i ≤ 8
  | 0 => Nat.le_refl 8
  | i + 1 => by
    unfold flr
    have := flr_le A heap i
    split <;> omega
theorem m_floor {A : dA} {heap : Nat} {M : xM} (h : mA M A) (hW : mW M A) (hh : heap < 512) : fX12_floor [.inr (.inr (12, 0)), .inl (iZ (heap))] M = some (some (.inl (iZ (flr A heap (aP A)))), M) := by
  show xfix gX12_floor (0, [some (.inr (.inr (12, 0))), some (.inl (iZ (heap))), none, none], [], M) = _; rw [xfix_unf, sX12_floor_0]
  simp (disch := omega) only [xk_none, xk_inl, xk_inr, xk_ite, xri_v, xrl_v, xrv_v, xb_z0, xb_z1, xb_b2, if_true, if_false, ite_true, ite_false, iZ_lit, iZ_m1, iZ_m99, iZ_m8, iZ_add, iZ_sub, iZ_mul, iZ_neg, nz0, nzi, iZ_lt, iZ_le, iZ_inj, b2_z, b2_o, ite_bPz, ite_bPo, xb_bP, iZ_xin, if_pos, ite_self, ↓reduceIte, Int.reduceAdd, Int.reduceSub, Int.reduceMul, Int.reduceNeg, Int.reduceLT, Int.reduceLE, if_neg, nS, iZ_clampN, iZ_bit, iZ_one, iZ_and, iZ_or, iZ_ndn]
  have hP := h.ok.P
  have hl := xfor_F (sg := gX12_floor) (fun i => (5, [some (.inr (.inr (12, 0))), some (.inl (iZ (heap))), some (.inl (iZ ((flr A heap i)))), some (.inl (iZ (i)))], [], M)) (a := 0) (n := aP A) (by omega) (fun i _ hi => by
    have h1 := flr_le A heap i
    have h2 := lowS_le A i
    rw [xfix_unf, sX12_floor_5]
    simp (disch := omega) only [xk_none, xk_inl, xk_inr, xk_ite, xri_v, xrl_v, xrv_v, xb_z0, xb_z1, xb_b2, if_true, if_false, ite_true, ite_false, iZ_lit, iZ_m1, iZ_m99, iZ_m8, iZ_add, iZ_sub, iZ_mul, iZ_neg, nz0, nzi, iZ_lt, iZ_le, iZ_inj, b2_z, b2_o, ite_bPz, ite_bPo, xb_bP, iZ_xin, if_pos, ite_self, ↓reduceIte, Int.reduceAdd, Int.reduceSub, Int.reduceMul, Int.reduceNeg, Int.reduceLT, Int.reduceLE, if_neg, nS, iZ_clampN, iZ_bit, iZ_one, iZ_and, iZ_or, iZ_ndn, h.P.1, hW.1 i (by omega)]
    rw [show flr A heap (i + 1) = if heap.testBit i = true ∧ lowS A i < flr A heap i then lowS A i else flr A heap i from rfl]
    by_cases e1 : heap.testBit i = true
    · rw [if_pos e1]
      by_cases e2 : lowS A i < flr A heap i
      · rw [if_neg (by omega), if_pos ⟨e1, e2⟩]
      · rw [if_pos (by omega), if_neg (fun z => e2 z.2)]
    · rw [if_neg e1, if_neg (fun z => e1 z.1)])
  refine hl.trans ?_
  rw [xfix_unf, sX12_floor_5]
  simp (disch := omega) only [xk_none, xk_inl, xk_inr, xk_ite, xri_v, xrl_v, xrv_v, xb_z0, xb_z1, xb_b2, if_true, if_false, ite_true, ite_false, iZ_lit, iZ_m1, iZ_m99, iZ_m8, iZ_add, iZ_sub, iZ_mul, iZ_neg, nz0, nzi, iZ_lt, iZ_le, iZ_inj, b2_z, b2_o, ite_bPz, ite_bPo, xb_bP, iZ_xin, if_pos, ite_self, ↓reduceIte, Int.reduceAdd, Int.reduceSub, Int.reduceMul, Int.reduceNeg, Int.reduceLT, Int.reduceLE, if_neg, nS, iZ_clampN, iZ_bit, iZ_one, iZ_and, iZ_or, iZ_ndn, h.P.1]
/-- what comes to rest when some are held -/
def rst (A : dA) (heap fl held p : Nat) : Prop := ∀ S : Nat → Prop, (∀ q, held.testBit q = true → S q) → (∀ q, q < aP A → heap.testBit q = true → (lowS A q = fl ∨ ∃ r, (belS A q).testBit r = true ∧ S r) → S q) → S p
theorem rst.held {A : dA} {heap fl held p : Nat} (h : held.testBit p = true) : rst A heap fl held p := fun _ h1 _ => h1 p h
theorem rst.next {A : dA} {heap fl held p : Nat} (hp : p < aP A) (h : heap.testBit p = true) (h2 : lowS A p = fl ∨ ∃ r, (belS A p).testBit r = true ∧ rst A heap fl held r) : rst A heap fl held p := fun S h1 h3 => h3 p hp h (h2.imp id fun ⟨r, a, b⟩ => ⟨r, a, b S h1 h3⟩)
noncomputable def rstS (A : dA) (heap fl held : Nat) : Nat := msk (rst A heap fl held) 9
theorem and_ne0 {a b : Nat} : a &&& b ≠ 0 ↔ ∃ r, a.testBit r = true ∧ b.testBit r = true := by
  constructor
  · intro h
    refine Classical.byContradiction fun hn => h (Nat.eq_of_testBit_eq fun i => ?_)
    rw [Nat.testBit_and, Nat.zero_testBit]
    cases x : a.testBit i <;> cases y : b.testBit i <;> simp
    exact hn ⟨i, x, y⟩
  · rintro ⟨r, h1, h2⟩ h
    have := Nat.testBit_and a b r
    rw [h, h1, h2, Nat.zero_testBit] at this
    cases this
theorem or_two (s p q : Nat) : (s ||| 2 ^ p).testBit q = true ↔ s.testBit q = true ∨ q = p := by
  rw [Nat.testBit_or, Nat.testBit_two_pow, Bool.or_eq_true, decide_eq_true_iff]
  exact ⟨fun z => z.imp id Eq.symm, fun z => z.imp id Eq.symm⟩
/-- one turn over the parts -/
noncomputable def rpas (A : dA) (heap fl s : Nat) : Nat → Nat
  | 0 => s
  | i + 1 => if heap.testBit i = true ∧ (lowS A i = fl ∨ (belS A i &&& rpas A heap fl s i) ≠ 0) then rpas A heap fl s i ||| 2 ^ i else rpas A heap fl s i
theorem rpas_lt {A : dA} {heap fl s : Nat} (hs : s < 512) : ∀ i, i ≤ 9 → rpas A heap fl s i < 512
  | 0, _ => hs
  | i + 1, hi => by
    unfold rpas
    have := rpas_lt (A := A) (heap := heap) (fl := fl) hs i (by omega)
    split
    · exact Nat.or_lt_two_pow (n := 9) this (Nat.pow_lt_pow_right (by decide) (by omega))
    · exact this
theorem rpas_ge {A : dA} {heap fl s : Nat} : ∀ i q, s.testBit q = true → (rpas A heap fl s i).testBit q = true
  | 0, _, h => h
  | i + 1, q, h => by
    unfold rpas
    have := rpas_ge (A := A) (heap := heap) (fl := fl) i q h
    split
    · rw [or_two]; exact .inl this
    · exact this
theorem rpas_mono {A : dA} {heap fl s : Nat} {i : Nat} : ∀ j, i ≤ j → ∀ q, (rpas A heap fl s i).testBit q = true → (rpas A heap fl s j).testBit q = true
  | 0, h, q, hq => by have : i = 0 := by omega
                      rw [this] at hq; exact hq
  | j + 1, h, q, hq => by
    by_cases e : i = j + 1
    · rw [← e]; exact hq
    · have := rpas_mono (A := A) (heap := heap) (fl := fl) (s := s) j (by omega) q hq
      unfold rpas
      split
      · rw [or_two]; exact .inl this
      · exact this
theorem rpas_rst {A : dA} {heap fl held s : Nat} (hs : ∀ q, s.testBit q = true → rst A heap fl held q) : ∀ i, i ≤ aP A → ∀ q, (rpas A heap fl s i).testBit q = true → rst A heap fl held q
  | 0, _, q, h => hs q h
  | i + 1, hi, q, h => by
    unfold rpas at h
    have ih := rpas_rst hs i (by omega)
    split at h
    · rename_i hc
      rw [or_two] at h
      rcases h with h | h
      · exact ih q h
      · subst h
        exact rst.next (by omega) hc.1 (hc.2.imp id fun z => by
          obtain ⟨r, h1, h2⟩ := and_ne0.mp z
          exact ⟨r, h1, ih r h2⟩)
    · exact ih q h
/-- a turn that changes nothing: the set is closed -/
theorem rpas_fix {A : dA} {heap fl s : Nat} (h : rpas A heap fl s (aP A) = s) : ∀ q, q < aP A → heap.testBit q = true → (lowS A q = fl ∨ ∃ r, (belS A q).testBit r = true ∧ s.testBit r = true) → s.testBit q = true := by
  intro q hq hh hc
  rw [← h]
  refine rpas_mono (aP A) hq q ?_
  unfold rpas
  rw [if_pos ⟨hh, hc.imp id fun ⟨r, h1, h2⟩ => and_ne0.mpr ⟨r, h1, rpas_ge q r h2⟩⟩, or_two]
  exact .inr rfl
theorem rstS_of {A : dA} {heap fl held s : Nat} (hs : s < 512) (h1 : ∀ q, held.testBit q = true → s.testBit q = true) (h2 : ∀ q, s.testBit q = true → rst A heap fl held q) (h3 : ∀ q, q < aP A → heap.testBit q = true → (lowS A q = fl ∨ ∃ r, (belS A q).testBit r = true ∧ s.testBit r = true) → s.testBit q = true) : s = rstS A heap fl held :=
  msk_ext (n := 9) hs fun i _ => ⟨h2 i, fun z => z (fun q => s.testBit q = true) h1 h3⟩
theorem rst_pass {A : dA} {heap fl s b : Nat} {M : xM} (h : mA M A) (hW : mW M A) (hh : heap < 512) (hf : fl ≤ 8) (hs : s < 512) : xfix gX12_resting (20, [some (.inr (.inr (12, 0))), some (.inl (iZ (heap))), none, some (.inl (iZ (fl))), some (.inl (iZ (s))), some (.inl (iZ (b))), some (.inl (iZ ((0 : Nat))))], [], M) = xfix gX12_resting (6, [some (.inr (.inr (12, 0))), some (.inl (iZ (heap))), none, some (.inl (iZ (fl))), some (.inl (iZ ((rpas A heap fl s (aP A))))), some (.inl (iZ (b))), none], [], M) := by
  have hP := h.ok.P
  have hl := xfor_F (sg := gX12_resting) (fun i => (20, [some (.inr (.inr (12, 0))), some (.inl (iZ (heap))), none, some (.inl (iZ (fl))), some (.inl (iZ ((rpas A heap fl s i)))), some (.inl (iZ (b))), some (.inl (iZ (i)))], [], M)) (a := 0) (n := aP A) (by omega) (fun i _ hi => by
    have h1 := rpas_lt (A := A) (heap := heap) (fl := fl) hs i (by omega)
    have h2 := lowS_le A i
    have h3 : belS A i &&& rpas A heap fl s i < 512 := Nat.lt_of_le_of_lt Nat.and_le_left (belS_lt A i)
    rw [xfix_unf, sX12_resting_20]
    simp (disch := omega) only [xk_none, xk_inl, xk_inr, xk_ite, xri_v, xrl_v, xrv_v, xb_z0, xb_z1, xb_b2, if_true, if_false, ite_true, ite_false, iZ_lit, iZ_m1, iZ_m99, iZ_m8, iZ_add, iZ_sub, iZ_mul, iZ_neg, nz0, nzi, iZ_lt, iZ_le, iZ_inj, b2_z, b2_o, ite_bPz, ite_bPo, xb_bP, iZ_xin, if_pos, ite_self, ↓reduceIte, Int.reduceAdd, Int.reduceSub, Int.reduceMul, Int.reduceNeg, Int.reduceLT, Int.reduceLE, if_neg, nS, iZ_clampN, iZ_bit, iZ_one, iZ_and, iZ_or, iZ_ndn, h.P.1, hW.1 i (by omega), hW.2 i (by omega), iZ_z]
    rw [show rpas A heap fl s (i + 1) = if heap.testBit i = true ∧ (lowS A i = fl ∨ (belS A i &&& rpas A heap fl s i) ≠ 0) then rpas A heap fl s i ||| 2 ^ i else rpas A heap fl s i from rfl]
    by_cases e1 : heap.testBit i = true
    · rw [if_pos e1]
      by_cases e2 : lowS A i = fl
      · rw [if_pos e2, if_pos ⟨e1, .inl e2⟩]
      · rw [if_neg e2]
        by_cases e3 : belS A i &&& rpas A heap fl s i = 0
        · rw [if_pos e3, if_neg (fun z => z.2.elim e2 (fun y => y e3))]
        · rw [if_neg e3, if_pos ⟨e1, .inr e3⟩]
    · rw [if_neg e1, if_neg (fun z => e1 z.1)])
  refine hl.trans ?_
  rw [xfix_unf, sX12_resting_20]
  simp (disch := omega) only [xk_none, xk_inl, xk_inr, xk_ite, xri_v, xrl_v, xrv_v, xb_z0, xb_z1, xb_b2, if_true, if_false, ite_true, ite_false, iZ_lit, iZ_m1, iZ_m99, iZ_m8, iZ_add, iZ_sub, iZ_mul, iZ_neg, nz0, nzi, iZ_lt, iZ_le, iZ_inj, b2_z, b2_o, ite_bPz, ite_bPo, xb_bP, iZ_xin, if_pos, ite_self, ↓reduceIte, Int.reduceAdd, Int.reduceSub, Int.reduceMul, Int.reduceNeg, Int.reduceLT, Int.reduceLE, if_neg, nS, iZ_clampN, iZ_bit, iZ_one, iZ_and, iZ_or, iZ_ndn, h.P.1]
theorem le_bits {a b : Nat} (h : ∀ q, a.testBit q = true → b.testBit q = true) : a ≤ b := Nat.le_of_testBit h
theorem m_resting {A : dA} {heap held fl : Nat} {M : xM} (h : mA M A) (hW : mW M A) (hh : heap < 512) (h2 : held < 512) (hf : fl ≤ 8) : fX12_resting [.inr (.inr (12, 0)), .inl (iZ (heap)), .inl (iZ (held)), .inl (iZ (fl))] M = some (some (.inl (iZ (rstS A heap fl held))), M) := by
  show xfix gX12_resting (0, [some (.inr (.inr (12, 0))), some (.inl (iZ (heap))), some (.inl (iZ (held))), some (.inl (iZ (fl))), none, none, none], [], M) = _; rw [xfix_unf, sX12_resting_0]
  simp (disch := omega) only [xk_none, xk_inl, xk_inr, xk_ite, xri_v, xrl_v, xrv_v, xb_z0, xb_z1, xb_b2, if_true, if_false, ite_true, ite_false, iZ_lit, iZ_m1, iZ_m99, iZ_m8, iZ_add, iZ_sub, iZ_mul, iZ_neg, nz0, nzi, iZ_lt, iZ_le, iZ_inj, b2_z, b2_o, ite_bPz, ite_bPo, xb_bP, iZ_xin, if_pos, ite_self, ↓reduceIte, Int.reduceAdd, Int.reduceSub, Int.reduceMul, Int.reduceNeg, Int.reduceLT, Int.reduceLE, if_neg, nS, iZ_clampN, iZ_bit, iZ_one, iZ_and, iZ_or, iZ_ndn]
  have key : ∀ d s : Nat, 512 - s ≤ d → s < 512 → (∀ q, held.testBit q = true → s.testBit q = true) → (∀ q, s.testBit q = true → rst A heap fl held q) → ∀ b : Int, -1 ≤ b → b < 512 → b ≠ s → xfix gX12_resting (6, [some (.inr (.inr (12, 0))), some (.inl (iZ (heap))), none, some (.inl (iZ (fl))), some (.inl (iZ (s))), some (.inl (iZ (b))), none], [], M) = some (some (.inl (iZ (rstS A heap fl held))), M) := by
    intro d
    induction d with
    | zero => intro s h1 h2; omega
    | succ d ih =>
      intro s g1 g2 g3 g4 b g5 g6 g7
      rw [xfix_unf, sX12_resting_6]
      simp (disch := omega) only [xk_none, xk_inl, xk_inr, xk_ite, xri_v, xrl_v, xrv_v, xb_z0, xb_z1, xb_b2, if_true, if_false, ite_true, ite_false, iZ_lit, iZ_m1, iZ_m99, iZ_m8, iZ_add, iZ_sub, iZ_mul, iZ_neg, nz0, nzi, iZ_lt, iZ_le, iZ_inj, b2_z, b2_o, ite_bPz, ite_bPo, xb_bP, iZ_xin, if_pos, ite_self, ↓reduceIte, Int.reduceAdd, Int.reduceSub, Int.reduceMul, Int.reduceNeg, Int.reduceLT, Int.reduceLE, if_neg, nS, iZ_clampN, iZ_bit, iZ_one, iZ_and, iZ_or, iZ_ndn]
      have e := rst_pass (b := s) (s := s) h hW hh hf g2
      refine e.trans ?_
      have k1 := rpas_lt (A := A) (heap := heap) (fl := fl) g2 (aP A) h.ok.P
      have k2 : s ≤ rpas A heap fl s (aP A) := le_bits (rpas_ge (aP A))
      by_cases e2 : rpas A heap fl s (aP A) = s
      · rw [e2]
        rw [xfix_unf, sX12_resting_6]
        simp (disch := omega) only [xk_none, xk_inl, xk_inr, xk_ite, xri_v, xrl_v, xrv_v, xb_z0, xb_z1, xb_b2, if_true, if_false, ite_true, ite_false, iZ_lit, iZ_m1, iZ_m99, iZ_m8, iZ_add, iZ_sub, iZ_mul, iZ_neg, nz0, nzi, iZ_lt, iZ_le, iZ_inj, b2_z, b2_o, ite_bPz, ite_bPo, xb_bP, iZ_xin, if_pos, ite_self, ↓reduceIte, Int.reduceAdd, Int.reduceSub, Int.reduceMul, Int.reduceNeg, Int.reduceLT, Int.reduceLE, if_neg, nS, iZ_clampN, iZ_bit, iZ_one, iZ_and, iZ_or, iZ_ndn]
        rw [rstS_of g2 g3 g4 (rpas_fix e2)]
      · exact ih _ (by omega) k1 (fun q hq => rpas_ge _ q (g3 q hq)) (rpas_rst g4 _ (Nat.le_refl _)) s (by omega) (by omega) (by omega)
  exact key 512 held (by omega) h2 (fun _ x => x) (fun q => rst.held) (-1) (by omega) (by omega) (by omega)
