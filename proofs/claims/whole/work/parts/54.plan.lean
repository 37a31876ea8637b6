/-! the reference: the plan -/
theorem leaW_ok {gw : Nat → Nat → Nat → Prop} {cst : Nat → Nat → Int} {heap half : Nat} {b : Int} {s : Int × Nat × Nat} : ∀ w, w ≤ 6 → leaW gw cst heap half b s w = s ∨ ∃ v, v < 6 ∧ gw heap half v ∧ leaW gw cst heap half b s w = (cst heap v + b, half, v)
  | 0, _ => .inl rfl
  | w + 1, h => by
    rw [show leaW gw cst heap half b s (w + 1) = @ite _ (gw heap half w ∧ ((leaW gw cst heap half b s w).1 = -1 ∨ cst heap w + b < (leaW gw cst heap half b s w).1)) (Classical.propDecidable _) (cst heap w + b, half, w) (leaW gw cst heap half b s w) from rfl]
    by_cases e : gw heap half w ∧ ((leaW gw cst heap half b s w).1 = -1 ∨ cst heap w + b < (leaW gw cst heap half b s w).1)
    · rw [if_pos e]; exact .inr ⟨w, by omega, e.1, rfl⟩
    · rw [if_neg e]; exact leaW_ok w (by omega)
/-- the best cut of a heap is one of its cuts -/
theorem leaP_ok {one : Nat → Prop} {ok : Nat → Nat → Prop} {gw : Nat → Nat → Nat → Prop} {cst : Nat → Nat → Int} {heap : Nat} {T : Nat → Int × Nat × Nat} (ho : ¬ one heap) : ∀ k, (leaP one ok gw cst heap T k).1 ≠ -1 → hlf one ok heap (leaP one ok gw cst heap T k).2.1 ∧ (leaP one ok gw cst heap T k).2.1 < k ∧ (T (leaP one ok gw cst heap T k).2.1).1 ≠ -1 ∧ (T (ndn heap (leaP one ok gw cst heap T k).2.1)).1 ≠ -1 ∧ (leaP one ok gw cst heap T k).2.2 < 6 ∧ gw heap (leaP one ok gw cst heap T k).2.1 (leaP one ok gw cst heap T k).2.2
  | 0, h => by
    unfold leaP at h
    rw [if_neg ho] at h
    exact absurd rfl h
  | k + 1, h => by
    rw [leaP_S] at h ⊢
    by_cases e : hlf one ok heap k ∧ (T k).1 ≠ -1 ∧ (T (ndn heap k)).1 ≠ -1
    · rw [if_pos e] at h ⊢
      rcases leaW_ok (gw := gw) (cst := cst) (heap := heap) (half := k) (b := (T k).1 + (T (ndn heap k)).1) (s := leaP one ok gw cst heap T k) 6 (Nat.le_refl _) with h2 | ⟨v, h2, h3, h4⟩
      · rw [h2] at h ⊢
        obtain ⟨a, b, c⟩ := leaP_ok ho k h
        exact ⟨a, by omega, c⟩
      · rw [h4]
        exact ⟨e.1, by show k < k + 1; omega, e.2.1, e.2.2, h2, h3⟩
    · rw [if_neg e] at h ⊢
      obtain ⟨a, b, c⟩ := leaP_ok ho k h
      exact ⟨a, by omega, c⟩
theorem leaA_ok {A : dA} {h : Nat} (ho : ¬ on1 h) (hl : (leaA A h).1 ≠ -1) : (1 ≤ (leaA A h).2.1 ∧ (leaA A h).2.1 < h ∧ (leaA A h).2.1 &&& h = (leaA A h).2.1) ∧ (leaA A (leaA A h).2.1).1 ≠ -1 ∧ (leaA A (ndn h (leaA A h).2.1)).1 ≠ -1 ∧ (leaA A h).2.2 < 6 ∧ gdw A (barS A) h (leaA A h).2.1 (leaA A h).2.2 := by
  rw [leaA_eq] at hl ⊢
  obtain ⟨a, b, c, d, e, f⟩ := leaP_ok ho h hl
  have hr := ndn_add h _ a.2.2.1
  have h1 := a.2.1
  rw [leaA_st b] at c
  rw [leaA_st (by omega)] at d
  exact ⟨⟨h1, b, a.2.2.1⟩, c, d, e, f⟩
/-- the heaps of the plan, one after another -/
noncomputable def plR (A : dA) : Nat → List Nat → Nat → Option Nat
  | 0, _, _ => none
  | _ + 1, [], _ => none
  | f + 1, h :: s, k => if bc h = 1 then plR A f s k else if k = 0 then some h else plR A f ((leaA A h).2.1 :: ndn h (leaA A h).2.1 :: s) (k - 1)
def sOk (A : dA) (s : List Nat) : Prop := ∀ h, h ∈ s → 1 ≤ h ∧ h < 2 ^ aP A ∧ (leaA A h).1 ≠ -1
def wtS : List Nat → Nat
  | [] => 0
  | h :: s => (2 * bc h - 1) + wtS s
def sbS : List Nat → Nat
  | [] => 0
  | h :: s => bc h + sbS s
theorem bc_pos {h : Nat} (h1 : 1 ≤ h) (h2 : h < 512) : 1 ≤ bc h := by
  have := bc_0 h2
  omega
theorem sbS_len {A : dA} (hP : aP A ≤ 9) : ∀ {s : List Nat}, sOk A s → s.length ≤ sbS s
  | [], _ => Nat.le_refl _
  | h :: s, hs => by
    have h1 := hs h List.mem_cons_self
    have hp := pow9 hP
    have := bc_pos h1.1 (by omega)
    have := sbS_len hP (s := s) (fun x hx => hs x (List.mem_cons_of_mem _ hx))
    simp only [sbS, List.length_cons]
    omega
def stk (r : xR) (M : xM) : List Nat → Prop
  | [] => True
  | h :: s => xI M r s.length = iZ h ∧ stk r M s
theorem stk.put {r : xR} {M : xM} {j : Nat} {v : Int32} : ∀ {s : List Nat}, s.length ≤ j → stk r M s → stk r (xpI M r j v) s
  | [], _, _ => trivial
  | h :: s, hj, hs => by
    simp only [List.length_cons] at hj
    exact ⟨by rw [xI_pI, if_neg (fun z => by omega)]; exact hs.1, hs.2.put (by omega)⟩
/-- what follows of a heap of the plan that isn't one part -/
theorem plan_step {A : dA} (hP : aP A ≤ 9) {h : Nat} {s : List Nat} (ho : ¬ bc h = 1) (hs : sOk A (h :: s)) : sOk A ((leaA A h).2.1 :: ndn h (leaA A h).2.1 :: s) ∧ wtS ((leaA A h).2.1 :: ndn h (leaA A h).2.1 :: s) + 1 = wtS (h :: s) ∧ sbS ((leaA A h).2.1 :: ndn h (leaA A h).2.1 :: s) = sbS (h :: s) := by
  have h1 := hs h List.mem_cons_self
  obtain ⟨⟨a1, a2, a3⟩, a4, a5, a6, a7⟩ := leaA_ok (A := A) (h := h) ho h1.2.2
  have hp := pow9 hP
  have hr := ndn_add h _ a3
  have hb := bc_add a3
  have b1 := bc_pos a1 (by omega : (leaA A h).2.1 < 512)
  have b2 := bc_pos (h := ndn h (leaA A h).2.1) (by omega) (by omega)
  refine ⟨fun x hx => ?_, ?_, ?_⟩
  · simp only [List.mem_cons] at hx
    rcases hx with hx | hx | hx
    · rw [hx]; exact ⟨a1, by omega, a4⟩
    · rw [hx]; exact ⟨by omega, by omega, a5⟩
    · exact hs x (List.mem_cons_of_mem _ hx)
  · simp only [wtS]; omega
  · simp only [sbS]; omega
theorem plR_no {A : dA} (hP : aP A ≤ 9) : ∀ f s k, sOk A s → sbS s ≤ k + s.length → plR A f s k = none
  | 0, _, _, _, _ => rfl
  | _ + 1, [], _, _, _ => rfl
  | f + 1, h :: s, k, hs, hk => by
    have h1 := hs h List.mem_cons_self
    have hp := pow9 hP
    have hb := bc_pos h1.1 (by omega : h < 512)
    have hl := sbS_len hP (s := s) (fun x hx => hs x (List.mem_cons_of_mem _ hx))
    simp only [sbS, List.length_cons] at hk
    unfold plR
    by_cases e : bc h = 1
    · rw [if_pos e]
      exact plR_no hP f s k (fun x hx => hs x (List.mem_cons_of_mem _ hx)) (by omega)
    · rw [if_neg e, if_neg (by omega)]
      obtain ⟨p1, p2, p3⟩ := plan_step hP e hs
      refine plR_no hP f _ (k - 1) p1 ?_
      rw [p3]
      simp only [sbS, List.length_cons]
      omega
theorem plR_mem {A : dA} (hP : aP A ≤ 9) : ∀ f s k h, sOk A s → plR A f s k = some h → 1 ≤ h ∧ h < 2 ^ aP A ∧ (leaA A h).1 ≠ -1 ∧ ¬ bc h = 1
  | 0, _, _, _, _, e => by cases e
  | _ + 1, [], _, _, _, e => by cases e
  | f + 1, x :: s, k, h, hs, hk => by
    unfold plR at hk
    by_cases e : bc x = 1
    · rw [if_pos e] at hk
      exact plR_mem hP f s k h (fun y hy => hs y (List.mem_cons_of_mem _ hy)) hk
    · rw [if_neg e] at hk
      by_cases e2 : k = 0
      · rw [if_pos e2] at hk
        cases hk
        have := hs x List.mem_cons_self
        exact ⟨this.1, this.2.1, this.2.2, e⟩
      · rw [if_neg e2] at hk
        exact plR_mem hP f _ _ h (plan_step hP e hs).1 hk
noncomputable def plH (A : dA) (k : Int) : Option Nat := @ite _ (0 ≤ k ∧ k < 9 ∧ aP A ≠ 0 ∧ (leaA A (2 ^ aP A - 1)).1 ≠ -1) (Classical.propDecidable _) (plR A 18 [2 ^ aP A - 1] k.toNat) none
noncomputable def plW (A : dA) (what : Int) : Option Nat → Int
  | none => -1
  | some h => if what = 0 then h else if what = 1 then (leaA A h).2.1 else if what = 2 then (leaA A h).2.2 else -1
noncomputable def sPlan (A : dA) (k what : Int) : Int := plW A what (plH A k)
theorem plan_55 {A : dA} {M : xM} (hQ : mQ M A) (hK : mKn M A) {k : Nat} {w : Nat} (hk : k < 9) (hw : w < 3) : ∀ (f : Nat) (s : List Nat) (n : Nat) (N : xM), scr M N → stk (144, 0) N s → sOk A s → sbS s ≤ 9 → wtS s < f → n ≤ k → ∃ N', xfix gX12_plan (55, [some (.inr (.inr (12, 0))), some (.inl (iZ (k))), some (.inl (iZ (w))), some (.inl (iZ ((s.length : Nat)))), some (.inl (iZ (n))), none], [], N) = some (some (.inl (iZ (plW A w (plR A f s (k - n))))), N') ∧ scr M N'
  | 0, s, n, N, _, _, _, _, h, _ => by omega
  | f + 1, [], n, N, hs, _, _, _, _, _ => by
    refine ⟨N, ?_, hs⟩
    rw [xfix_unf, sX12_plan_55]
    simp (disch := omega) only [xk_none, xk_inl, xk_inr, xk_ite, xri_v, xrl_v, xrv_v, xb_z0, xb_z1, xb_b2, if_true, if_false, ite_true, ite_false, iZ_lit, iZ_m1, iZ_m99, iZ_m8, iZ_add, iZ_sub, iZ_mul, iZ_neg, nz0, nzi, iZ_lt, iZ_le, iZ_inj, b2_z, b2_o, ite_bPz, ite_bPo, xb_bP, iZ_xin, if_pos, ite_self, ↓reduceIte, Int.reduceAdd, Int.reduceSub, Int.reduceMul, Int.reduceNeg, Int.reduceLT, Int.reduceLE, if_neg, List.length_nil]
    rfl
  | f + 1, h :: s, n, N, hs, hst, hok, hsb, hwt, hn => by
    have h1 := hok h List.mem_cons_self
    have hP9 := hQ.A.ok.P
    have hp := pow9 hP9
    have hlen := sbS_len hP9 hok
    have hlen2 : (h :: s).length = s.length + 1 := rfl
    have hN := hQ.scr hs
    have hb := bc_le h
    have f1 := hst.1
    have e0 : ((s.length + 1 : Nat) : Int) + (-1) = (s.length : Nat) := by omega
    unfold plR
    rw [hlen2]
    by_cases e : bc h = 1
    · obtain ⟨N', g1, g2⟩ := plan_55 hQ hK hk hw f s n N hs hst.2 (fun x hx => hok x (List.mem_cons_of_mem _ hx)) (by simp only [sbS] at hsb; omega) (by simp only [wtS] at hwt; omega) hn
      refine ⟨N', ?_, g2⟩
      rw [if_pos e, ← g1]
      rw [xfix_unf, sX12_plan_55]
      simp (disch := omega) only [xk_none, xk_inl, xk_inr, xk_ite, xri_v, xrl_v, xrv_v, xb_z0, xb_z1, xb_b2, if_true, if_false, ite_true, ite_false, iZ_lit, iZ_m1, iZ_m99, iZ_m8, iZ_add, iZ_sub, iZ_mul, iZ_neg, nz0, nzi, iZ_lt, iZ_le, iZ_inj, b2_z, b2_o, ite_bPz, ite_bPo, xb_bP, iZ_xin, if_pos, ite_self, ↓reduceIte, Int.reduceAdd, Int.reduceSub, Int.reduceMul, Int.reduceNeg, Int.reduceLT, Int.reduceLE, if_neg, e0, iZ_clampN, f1, m_bits N (v := h) (by omega), e]
    · rw [if_neg e]
      obtain ⟨b1, b2, b3, b4⟩ := (hK.scr hs).2.2.1 h h1.1 h1.2.1
      obtain ⟨c1, c2⟩ := b3 e h1.2.2
      obtain ⟨⟨a1, a2, a3⟩, a4, a5, a6, a7⟩ := leaA_ok (A := A) (h := h) e h1.2.2
      by_cases e2 : n = k
      · rw [if_pos (by omega)]
        refine ⟨N, ?_, hs⟩
        unfold plW
        rw [xfix_unf, sX12_plan_55]
        simp (disch := omega) only [xk_none, xk_inl, xk_inr, xk_ite, xri_v, xrl_v, xrv_v, xb_z0, xb_z1, xb_b2, if_true, if_false, ite_true, ite_false, iZ_lit, iZ_m1, iZ_m99, iZ_m8, iZ_add, iZ_sub, iZ_mul, iZ_neg, nz0, nzi, iZ_lt, iZ_le, iZ_inj, b2_z, b2_o, ite_bPz, ite_bPo, xb_bP, iZ_xin, if_pos, ite_self, ↓reduceIte, Int.reduceAdd, Int.reduceSub, Int.reduceMul, Int.reduceNeg, Int.reduceLT, Int.reduceLE, if_neg, e0, iZ_clampN, f1, m_bits N (v := h) (by omega), e, c1, c2]
        rcases (by omega : w = 0 ∨ w = 1 ∨ w = 2) with z | z | z <;> subst z <;> rfl
      · rw [if_neg (by omega)]
        obtain ⟨p1, p2, p3⟩ := plan_step hP9 e hok
        have hr := ndn_le h (leaA A h).2.1
        have n1 : scr M (xpI (xpI N (144, 0) s.length (iZ (ndn h (leaA A h).2.1))) (144, 0) (s.length + 1) (iZ (leaA A h).2.1)) := xSm.pI (xSm.pI hs ⟨rfl, rfl⟩) ⟨rfl, rfl⟩
        have n2 : stk (144, 0) (xpI (xpI N (144, 0) s.length (iZ (ndn h (leaA A h).2.1))) (144, 0) (s.length + 1) (iZ (leaA A h).2.1)) ((leaA A h).2.1 :: ndn h (leaA A h).2.1 :: s) := by
          refine ⟨?_, ?_, (hst.2.put (Nat.le_refl _)).put (by omega)⟩
          · rw [xI_pI]; exact if_pos ⟨rfl, rfl⟩
          · rw [xI_pI, if_neg (fun z => by omega), xI_pI, if_pos ⟨rfl, rfl⟩]
        obtain ⟨N', g1, g2⟩ := plan_55 hQ hK hk hw f _ (n + 1) _ n1 n2 p1 (by omega) (by omega) (by omega)
        refine ⟨N', ?_, g2⟩
        rw [show k - n - 1 = k - (n + 1) by omega, ← g1]
        have e3 : ((s.length : Nat) : Int) + 2 = (((leaA A h).2.1 :: ndn h (leaA A h).2.1 :: s).length : Nat) := by simp only [List.length_cons]; omega
        have e4 : Int32.toNatClampNeg (iZ ((s.length : Int) + 1)) = s.length + 1 := by rw [iZ_clamp (by omega)]; omega
        have c1' : xI (xpI N (144, 0) s.length (iZ (ndn h (leaA A h).2.1))) (136, 0) h = iZ (leaA A h).2.1 := by rw [xI_pI_ne (by decide)]; exact c1
        rw [show ((n + 1 : Nat) : Int) = (n : Int) + 1 from rfl]
        rw [xfix_unf, sX12_plan_55]
        simp (disch := omega) only [xk_none, xk_inl, xk_inr, xk_ite, xri_v, xrl_v, xrv_v, xb_z0, xb_z1, xb_b2, if_true, if_false, ite_true, ite_false, iZ_lit, iZ_m1, iZ_m99, iZ_m8, iZ_add, iZ_sub, iZ_mul, iZ_neg, nz0, nzi, iZ_lt, iZ_le, iZ_inj, b2_z, b2_o, ite_bPz, ite_bPo, xb_bP, iZ_xin, if_pos, ite_self, ↓reduceIte, Int.reduceAdd, Int.reduceSub, Int.reduceMul, Int.reduceNeg, Int.reduceLT, Int.reduceLE, if_neg, e0, iZ_clampN, f1, m_bits N (v := h) (by omega), e, c1, c1', e4, iZ_ndn, e3]
theorem q_plan {A : dA} {M : xM} (h : mQ M A) {k what : Int} (hk : r32 k) (hw : r32 what) : qR M A (fX12_plan [.inr (.inr (12, 0)), .inl (iZ (k)), .inl (iZ (what))] M) (.inl (iZ (sPlan A k what))) := by
  have hP := pow9 h.A.ok.P
  have hP9 := h.A.ok.P
  obtain ⟨M', a1, a2, a3, a4, a5⟩ := h.kn
  have w0 := m_whole M' a2.A.P
  have ew : ((2 ^ aP A : Nat) : Int) - 1 = ((2 ^ aP A - 1 : Nat) : Int) := by omega
  rw [ew] at w0
  have no : sPlan A k what = -1 → fX12_plan [.inr (.inr (12, 0)), .inl (iZ (k)), .inl (iZ (what))] M = some (some (.inl (iZ (-1))), M') → qR M A (fX12_plan [.inr (.inr (12, 0)), .inl (iZ (k)), .inl (iZ (what))] M) (.inl (iZ (sPlan A k what))) := fun z1 z2 => ⟨M', by rw [z1]; exact z2, a2, a3⟩
  by_cases c1 : k < 0
  · refine no ?_ ?_
    · unfold sPlan plH
      rw [if_neg (fun z => by omega)]; rfl
    · show xfix gX12_plan (0, [some (.inr (.inr (12, 0))), some (.inl (iZ (k))), some (.inl (iZ (what))), none, none, none], [], M) = _; rw [xfix_unf, sX12_plan_0]
      simp (disch := omega) only [xk_none, xk_inl, xk_inr, xk_ite, xri_v, xrl_v, xrv_v, xb_z0, xb_z1, xb_b2, if_true, if_false, ite_true, ite_false, iZ_lit, iZ_m1, iZ_m99, iZ_m8, iZ_add, iZ_sub, iZ_mul, iZ_neg, nz0, nzi, iZ_lt, iZ_le, iZ_inj, b2_z, b2_o, ite_bPz, ite_bPo, xb_bP, iZ_xin, if_pos, ite_self, ↓reduceIte, Int.reduceAdd, Int.reduceSub, Int.reduceMul, Int.reduceNeg, Int.reduceLT, Int.reduceLE, if_neg, a1]
  · by_cases c2 : (aP A : Int) ≤ k
    · refine no ?_ ?_
      · unfold sPlan plH
        by_cases c3 : 0 ≤ k ∧ k < 9 ∧ aP A ≠ 0 ∧ (leaA A (2 ^ aP A - 1)).1 ≠ -1
        · have hw1 : 2 ^ 1 ≤ 2 ^ aP A := Nat.pow_le_pow_right (by decide) (by omega)
          rw [if_pos c3, plR_no hP9 _ _ _ (fun x hx => by
            simp only [List.mem_singleton] at hx
            rw [hx]; exact ⟨by omega, by omega, c3.2.2.2⟩) (by
            simp only [sbS, List.length_cons, List.length_nil]
            have : bc (2 ^ aP A - 1) ≤ aP A := by
              unfold bc
              have e1 : ∀ n, fb_ct (fun k => (2 ^ aP A - 1).testBit k) n ≤ aP A := fun n => by
                by_cases hn : n ≤ aP A
                · have := fb_ct_le (fun k => (2 ^ aP A - 1).testBit k) n; omega
                · have h3 : fb_ct (fun k => (2 ^ aP A - 1).testBit k) (aP A + (n - aP A)) = fb_ct (fun k => (2 ^ aP A - 1).testBit k) (aP A) + fb_ct (fun k => (2 ^ aP A - 1).testBit (aP A + k)) (n - aP A) := fb_ct_split _ _ _
                  have h4 : fb_ct (fun k => (2 ^ aP A - 1).testBit (aP A + k)) (n - aP A) = 0 := fb_ct_zero.mpr fun j hj => Nat.testBit_lt_two_pow (Nat.lt_of_lt_of_le (by omega : 2 ^ aP A - 1 < 2 ^ aP A) (Nat.pow_le_pow_right (by decide) (by omega)))
                  have h5 := fb_ct_le (fun k => (2 ^ aP A - 1).testBit k) (aP A)
                  rw [show aP A + (n - aP A) = n by omega] at h3
                  omega
              exact e1 9
            omega)]
          rfl
        · rw [if_neg c3]; rfl
      · show xfix gX12_plan (0, [some (.inr (.inr (12, 0))), some (.inl (iZ (k))), some (.inl (iZ (what))), none, none, none], [], M) = _; rw [xfix_unf, sX12_plan_0]
        simp (disch := omega) only [xk_none, xk_inl, xk_inr, xk_ite, xri_v, xrl_v, xrv_v, xb_z0, xb_z1, xb_b2, if_true, if_false, ite_true, ite_false, iZ_lit, iZ_m1, iZ_m99, iZ_m8, iZ_add, iZ_sub, iZ_mul, iZ_neg, nz0, nzi, iZ_lt, iZ_le, iZ_inj, b2_z, b2_o, ite_bPz, ite_bPo, xb_bP, iZ_xin, if_pos, ite_self, ↓reduceIte, Int.reduceAdd, Int.reduceSub, Int.reduceMul, Int.reduceNeg, Int.reduceLT, Int.reduceLE, if_neg, a1, a2.A.P.1]
    · have hp0 : aP A ≠ 0 := by omega
      have hw1 : 2 ^ 1 ≤ 2 ^ aP A := Nat.pow_le_pow_right (by decide) (by omega)
      obtain ⟨b1, b2, b3, b4⟩ := a4.2.2.1 (2 ^ aP A - 1) (by omega) (by omega)
      have bl := leaA_b (A := A) h.A.ok (k := 2 ^ aP A - 1) (by omega)
      by_cases c3 : 0 ≤ what ∧ what ≤ 2
      · by_cases c4 : (leaA A (2 ^ aP A - 1)).1 = -1
        · refine no ?_ ?_
          · unfold sPlan plH
            rw [if_neg (fun z => z.2.2.2 c4)]; rfl
          · show xfix gX12_plan (0, [some (.inr (.inr (12, 0))), some (.inl (iZ (k))), some (.inl (iZ (what))), none, none, none], [], M) = _; rw [xfix_unf, sX12_plan_0]
            generalize 2 ^ aP A - 1 = W at *
            simp (disch := omega) only [xk_none, xk_inl, xk_inr, xk_ite, xri_v, xrl_v, xrv_v, xb_z0, xb_z1, xb_b2, if_true, if_false, ite_true, ite_false, iZ_lit, iZ_m1, iZ_m99, iZ_m8, iZ_add, iZ_sub, iZ_mul, iZ_neg, nz0, nzi, iZ_lt, iZ_le, iZ_inj, b2_z, b2_o, ite_bPz, ite_bPo, xb_bP, iZ_xin, if_pos, ite_self, ↓reduceIte, Int.reduceAdd, Int.reduceSub, Int.reduceMul, Int.reduceNeg, Int.reduceLT, Int.reduceLE, if_neg, a1, a2.A.P.1, k_isIn, c3, and_self, w0, iZ_clampN, b2, c4]
        · obtain ⟨k, rfl⟩ : ∃ n : Nat, k = n := ⟨k.toNat, by omega⟩
          obtain ⟨w, rfl⟩ : ∃ n : Nat, what = n := ⟨what.toNat, by omega⟩
          have n1 : scr M' (xpI M' (144, 0) 0 (iZ ((2 ^ aP A - 1 : Nat) : Int))) := xSm.pI scr.rf ⟨rfl, rfl⟩
          have hbc := bc_le (2 ^ aP A - 1)
          obtain ⟨N', g1, g2⟩ := plan_55 a2 a4 (k := k) (w := w) (by omega) (by omega) 18 [2 ^ aP A - 1] 0 _ n1 ⟨by rw [xI_pI]; exact if_pos ⟨rfl, rfl⟩, trivial⟩ (fun x hx => by
            simp only [List.mem_singleton] at hx
            rw [hx]; exact ⟨by omega, by omega, c4⟩) (by simp only [sbS]; omega) (by simp only [wtS]; omega) (by omega)
          refine ⟨N', ?_, a2.scr g2, a3.tr g2.fB⟩
          unfold sPlan plH
          rw [if_pos ⟨by omega, by omega, hp0, c4⟩]
          refine Eq.trans ?_ g1
          show xfix gX12_plan (0, [some (.inr (.inr (12, 0))), some (.inl (iZ (k))), some (.inl (iZ (w))), none, none, none], [], M) = _; rw [xfix_unf, sX12_plan_0]
          generalize 2 ^ aP A - 1 = W at *
          simp (disch := omega) only [xk_none, xk_inl, xk_inr, xk_ite, xri_v, xrl_v, xrv_v, xb_z0, xb_z1, xb_b2, if_true, if_false, ite_true, ite_false, iZ_lit, iZ_m1, iZ_m99, iZ_m8, iZ_add, iZ_sub, iZ_mul, iZ_neg, nz0, nzi, iZ_lt, iZ_le, iZ_inj, b2_z, b2_o, ite_bPz, ite_bPo, xb_bP, iZ_xin, if_pos, ite_self, ↓reduceIte, Int.reduceAdd, Int.reduceSub, Int.reduceMul, Int.reduceNeg, Int.reduceLT, Int.reduceLE, if_neg, a1, a2.A.P.1, k_isIn, c3, and_self, w0, iZ_clampN, b2, cl_0]
          rfl
      · refine no ?_ ?_
        · unfold sPlan
          have : ∀ o, plW A what o = -1 := fun o => by
            cases o with
            | none => rfl
            | some x =>
              show (if what = 0 then (x : Int) else if what = 1 then ((leaA A x).2.1 : Int) else if what = 2 then ((leaA A x).2.2 : Int) else -1) = -1
              rw [if_neg (by omega), if_neg (by omega), if_neg (by omega)]
          exact this _
        · show xfix gX12_plan (0, [some (.inr (.inr (12, 0))), some (.inl (iZ (k))), some (.inl (iZ (what))), none, none, none], [], M) = _; rw [xfix_unf, sX12_plan_0]
          simp (disch := omega) only [xk_none, xk_inl, xk_inr, xk_ite, xri_v, xrl_v, xrv_v, xb_z0, xb_z1, xb_b2, if_true, if_false, ite_true, ite_false, iZ_lit, iZ_m1, iZ_m99, iZ_m8, iZ_add, iZ_sub, iZ_mul, iZ_neg, nz0, nzi, iZ_lt, iZ_le, iZ_inj, b2_z, b2_o, ite_bPz, ite_bPo, xb_bP, iZ_xin, if_pos, ite_self, ↓reduceIte, Int.reduceAdd, Int.reduceSub, Int.reduceMul, Int.reduceNeg, Int.reduceLT, Int.reduceLE, if_neg, a1, a2.A.P.1, k_isIn, c3]
