/-! the class: the plan -/
theorem iZ_L {z : Int} (h : -2147483648 ≤ z ∧ z < 2147483648) : (iZ z).toInt64 = lZ z := by
  refine Int64.toInt_inj.mp ?_
  rw [Int32.toInt_toInt64, iZ_toInt h.1 h.2, lZ_toInt (by omega) (by omega)]
theorem hAN_w {g P : Nat} (hg : g < 2 ^ P) : hAN g (2 ^ P - 1) := .inr (Nat.eq_of_testBit_eq fun i => by
  rw [Nat.testBit_and, Nat.testBit_two_pow_sub_one]
  cases e : g.testBit i
  · rw [Bool.and_false]
  · rw [decide_eq_true (bit_lt hg e)]; rfl)
theorem x_ofWhole {M : xM} {P k g : Nat} {one : Nat → Prop} {O : Nat → Int} {L : Nat → Int × Nat × Nat} {what : Int} (f0 : xI M (5, 0) 0 = iZ P) (hP : P ≤ 9) (hg : g < 2 ^ P) (h : cOr M k g one O L (2 ^ P)) (hw : r32 what) (bl : ∀ h, 1 ≤ h → h < 2 ^ P → -1 ≤ (L h).1 ∧ (L h).1 ≤ 600000) : fX2_ofWhole [.inr (.inr (2, k)), .inl (iZ (what))] M = some (some (.inr (.inl (lZ (if what = 0 then (if P = 0 then 0 else O (2 ^ P - 1)) else (if P = 0 then -1 else (L (2 ^ P - 1)).1))))), M) := by
  unfold r32 at hw
  have h9 := pow9 hP
  have hww := x_whole (M := M) (s := 0) f0 hP
  have l0 : (0 : Int64) = lZ 0 := by decide +kernel
  have lm : (-1 : Int64) = lZ (-1) := lZ_m1
  by_cases eP : P = 0
  · subst eP
    have e1 : ((2 ^ 0 : Nat) : Int) - 1 = 0 := rfl
    rw [e1] at hww
    by_cases e : what = 0
    · rw [if_pos e, if_pos rfl]
      show xfix gX2_ofWhole (0, [some (.inr (.inr (2, k))), some (.inl (iZ (what))), none], [], M) = _; rw [xfix_unf, sX2_ofWhole_0]
      simp (disch := omega) only [xk_none, xk_inl, xk_inr, xk_ite, xri_v, xrl_v, xrv_v, xb_z0, xb_z1, xb_b2, if_true, if_false, ite_true, ite_false, iZ_lit, iZ_m1, iZ_m99, iZ_m8, iZ_add, iZ_sub, iZ_mul, iZ_neg, nz0, nzi, iZ_lt, iZ_le, iZ_inj, b2_z, b2_o, ite_bPz, ite_bPo, xb_bP, iZ_xin, if_pos, ite_self, ↓reduceIte, Int.reduceAdd, Int.reduceSub, Int.reduceMul, Int.reduceNeg, Int.reduceLT, Int.reduceLE, if_neg, hww, l0]
    · rw [if_neg e, if_pos rfl]
      show xfix gX2_ofWhole (0, [some (.inr (.inr (2, k))), some (.inl (iZ (what))), none], [], M) = _; rw [xfix_unf, sX2_ofWhole_0]
      simp (disch := omega) only [xk_none, xk_inl, xk_inr, xk_ite, xri_v, xrl_v, xrv_v, xb_z0, xb_z1, xb_b2, if_true, if_false, ite_true, ite_false, iZ_lit, iZ_m1, iZ_m99, iZ_m8, iZ_add, iZ_sub, iZ_mul, iZ_neg, nz0, nzi, iZ_lt, iZ_le, iZ_inj, b2_z, b2_o, ite_bPz, ite_bPo, xb_bP, iZ_xin, if_pos, ite_self, ↓reduceIte, Int.reduceAdd, Int.reduceSub, Int.reduceMul, Int.reduceNeg, Int.reduceLT, Int.reduceLE, if_neg, hww, lm]
  · have h2 : 2 ≤ 2 ^ P := by
      calc 2 = 2 ^ 1 := rfl
        _ ≤ 2 ^ P := Nat.pow_le_pow_right (by omega) (by omega)
    obtain ⟨q1, q2, _⟩ := h (2 ^ P - 1) (by omega) (by omega) (hAN_w hg)
    have b := bl (2 ^ P - 1) (by omega) (by omega)
    have ew : ((2 ^ P : Nat) : Int) - 1 = ((2 ^ P - 1 : Nat) : Int) := by omega
    rw [ew] at hww
    have hw1 : 1 ≤ 2 ^ P - 1 ∧ 2 ^ P - 1 < 512 := by omega
    have hL := iZ_L (z := (L (2 ^ P - 1)).1) (by omega)
    generalize 2 ^ P - 1 = W at *
    by_cases e : what = 0
    · rw [if_pos e, if_neg eP]
      show xfix gX2_ofWhole (0, [some (.inr (.inr (2, k))), some (.inl (iZ (what))), none], [], M) = _; rw [xfix_unf, sX2_ofWhole_0]
      simp (disch := omega) only [xk_none, xk_inl, xk_inr, xk_ite, xri_v, xrl_v, xrv_v, xb_z0, xb_z1, xb_b2, if_true, if_false, ite_true, ite_false, iZ_lit, iZ_m1, iZ_m99, iZ_m8, iZ_add, iZ_sub, iZ_mul, iZ_neg, nz0, nzi, iZ_lt, iZ_le, iZ_inj, b2_z, b2_o, ite_bPz, ite_bPo, xb_bP, iZ_xin, if_pos, ite_self, ↓reduceIte, Int.reduceAdd, Int.reduceSub, Int.reduceMul, Int.reduceNeg, Int.reduceLT, Int.reduceLE, if_neg, hww, iZ_clampN, q1]
    · rw [if_neg e, if_neg eP]
      show xfix gX2_ofWhole (0, [some (.inr (.inr (2, k))), some (.inl (iZ (what))), none], [], M) = _; rw [xfix_unf, sX2_ofWhole_0]
      simp (disch := omega) only [xk_none, xk_inl, xk_inr, xk_ite, xri_v, xrl_v, xrv_v, xb_z0, xb_z1, xb_b2, if_true, if_false, ite_true, ite_false, iZ_lit, iZ_m1, iZ_m99, iZ_m8, iZ_add, iZ_sub, iZ_mul, iZ_neg, nz0, nzi, iZ_lt, iZ_le, iZ_inj, b2_z, b2_o, ite_bPz, ite_bPo, xb_bP, iZ_xin, if_pos, ite_self, ↓reduceIte, Int.reduceAdd, Int.reduceSub, Int.reduceMul, Int.reduceNeg, Int.reduceLT, Int.reduceLE, if_neg, hww, iZ_clampN, q2, hL]
def plO : Option Nat → Int
  | none => -1
  | some h => (h : Int)
theorem x_plan44 {A : dA} {M : xM} (hA : aOk A) (hT : cOr M 0 0 on1 (ordA A) (leaA A) (2 ^ aP A)) {k : Nat} (hk : k < 9) : ∀ (f : Nat) (s : List Nat) (n t : Nat) (N : xM), t + f = 18 → xSame (fun r => r = (34, 0)) M N → stk (34, 0) N s → sOk A s → sbS s ≤ 9 → wtS s < f → n ≤ k → ∃ N', xfix gX2_planHeap (44, [some (.inr (.inr (2, 0))), some (.inl (iZ (k))), some (.inl (iZ (n))), some (.inl (iZ ((s.length : Nat)))), some (.inl (iZ (t))), none], [], N) = some (some (.inl (iZ (plO (plR A f s (k - n))))), N') ∧ xSame (fun r => r = (34, 0)) M N'
  | 0, s, n, t, N, _, _, _, _, _, h, _ => by omega
  | f + 1, [], n, t, N, ht, hs, _, _, _, _, _ => by
    refine ⟨N, ?_, hs⟩
    rw [xfix_unf, sX2_planHeap_44]
    simp (disch := omega) only [xk_none, xk_inl, xk_inr, xk_ite, xri_v, xrl_v, xrv_v, xb_z0, xb_z1, xb_b2, if_true, if_false, ite_true, ite_false, iZ_lit, iZ_m1, iZ_m99, iZ_m8, iZ_add, iZ_sub, iZ_mul, iZ_neg, nz0, nzi, iZ_lt, iZ_le, iZ_inj, b2_z, b2_o, ite_bPz, ite_bPo, xb_bP, iZ_xin, if_pos, ite_self, ↓reduceIte, Int.reduceAdd, Int.reduceSub, Int.reduceMul, Int.reduceNeg, Int.reduceLT, Int.reduceLE, if_neg, List.length_nil]
    rfl
  | f + 1, h :: s, n, t, N, ht, hs, hst, hok, hsb, hwt, hn => by
    have h1 := hok h List.mem_cons_self
    have hP9 := hA.P
    have hp := pow9 hP9
    have hlen := sbS_len hP9 hok
    have hlen2 : (h :: s).length = s.length + 1 := rfl
    have hb := bc_le h
    have f1 := hst.1
    have e0 : ((s.length + 1 : Nat) : Int) + (-1) = (s.length : Nat) := by omega
    have ho := x_isOne (M := N) (heap := h) h1.1 (by omega)
    unfold plR
    rw [hlen2]
    by_cases e : bc h = 1
    · rw [bP_t e] at ho
      obtain ⟨N', g1, g2⟩ := x_plan44 hA hT hk f s n (t + 1) N (by omega) hs hst.2 (fun x hx => hok x (List.mem_cons_of_mem _ hx)) (by simp only [sbS] at hsb; omega) (by simp only [wtS] at hwt; omega) hn
      refine ⟨N', ?_, g2⟩
      rw [if_pos e, ← g1, nS t]
      rw [xfix_unf, sX2_planHeap_44]
      simp (disch := omega) only [xk_none, xk_inl, xk_inr, xk_ite, xri_v, xrl_v, xrv_v, xb_z0, xb_z1, xb_b2, if_true, if_false, ite_true, ite_false, iZ_lit, iZ_m1, iZ_m99, iZ_m8, iZ_add, iZ_sub, iZ_mul, iZ_neg, nz0, nzi, iZ_lt, iZ_le, iZ_inj, b2_z, b2_o, ite_bPz, ite_bPo, xb_bP, iZ_xin, if_pos, ite_self, ↓reduceIte, Int.reduceAdd, Int.reduceSub, Int.reduceMul, Int.reduceNeg, Int.reduceLT, Int.reduceLE, if_neg, e0, iZ_clampN, f1, ho]
    · rw [bP_f e] at ho
      rw [if_neg e]
      obtain ⟨b1, b2, b3⟩ := hT h h1.1 h1.2.1 (hAN_0 h)
      obtain ⟨c1, c2⟩ := b3 e h1.2.2
      obtain ⟨⟨a1, a2, a3⟩, a4, a5, a6, a7⟩ := leaA_ok (A := A) (h := h) e h1.2.2
      have c1N : xI N (32, 0) h = iZ (leaA A h).2.1 := by rw [(hs (32, 0) (by simp)).1]; exact c1
      by_cases e2 : n = k
      · rw [if_pos (by omega)]
        refine ⟨N, ?_, hs⟩
        show _ = (some (some (.inl (iZ ((h : Int)))), N) : Option (Option xV × xM))
        rw [xfix_unf, sX2_planHeap_44]
        simp (disch := omega) only [xk_none, xk_inl, xk_inr, xk_ite, xri_v, xrl_v, xrv_v, xb_z0, xb_z1, xb_b2, if_true, if_false, ite_true, ite_false, iZ_lit, iZ_m1, iZ_m99, iZ_m8, iZ_add, iZ_sub, iZ_mul, iZ_neg, nz0, nzi, iZ_lt, iZ_le, iZ_inj, b2_z, b2_o, ite_bPz, ite_bPo, xb_bP, iZ_xin, if_pos, ite_self, ↓reduceIte, Int.reduceAdd, Int.reduceSub, Int.reduceMul, Int.reduceNeg, Int.reduceLT, Int.reduceLE, if_neg, e0, iZ_clampN, f1, ho]
      · rw [if_neg (by omega)]
        obtain ⟨p1, p2, p3⟩ := plan_step hP9 e hok
        have hr := ndn_le h (leaA A h).2.1
        have n1 : xSame (fun r => r = (34, 0)) M (xpI (xpI N (34, 0) s.length (iZ (ndn h (leaA A h).2.1))) (34, 0) (s.length + 1) (iZ (leaA A h).2.1)) := (hs.pI rfl).pI rfl
        have n2 : stk (34, 0) (xpI (xpI N (34, 0) s.length (iZ (ndn h (leaA A h).2.1))) (34, 0) (s.length + 1) (iZ (leaA A h).2.1)) ((leaA A h).2.1 :: ndn h (leaA A h).2.1 :: s) := by
          refine ⟨?_, ?_, (hst.2.put (Nat.le_refl _)).put (by omega)⟩
          · rw [xI_pI]; exact if_pos ⟨rfl, rfl⟩
          · rw [xI_pI, if_neg (fun z => by omega), xI_pI, if_pos ⟨rfl, rfl⟩]
        obtain ⟨N', g1, g2⟩ := x_plan44 hA hT hk f _ (n + 1) (t + 1) _ (by omega) n1 n2 p1 (by omega) (by omega) (by omega)
        refine ⟨N', ?_, g2⟩
        rw [show k - n - 1 = k - (n + 1) by omega, ← g1]
        have e3 : ((s.length : Nat) : Int) + 2 = (((leaA A h).2.1 :: ndn h (leaA A h).2.1 :: s).length : Nat) := by simp only [List.length_cons]; omega
        have e4 : Int32.toNatClampNeg (iZ ((s.length : Int) + 1)) = s.length + 1 := by rw [iZ_clamp (by omega)]; omega
        have c1' : ∀ v, xI (xpI N (34, 0) s.length v) (32, 0) h = iZ (leaA A h).2.1 := fun v => by rw [xI_pI_ne (by decide)]; exact c1N
        rw [show ((n + 1 : Nat) : Int) = (n : Int) + 1 from rfl, nS t]
        rw [xfix_unf, sX2_planHeap_44]
        simp (disch := omega) only [xk_none, xk_inl, xk_inr, xk_ite, xri_v, xrl_v, xrv_v, xb_z0, xb_z1, xb_b2, if_true, if_false, ite_true, ite_false, iZ_lit, iZ_m1, iZ_m99, iZ_m8, iZ_add, iZ_sub, iZ_mul, iZ_neg, nz0, nzi, iZ_lt, iZ_le, iZ_inj, b2_z, b2_o, ite_bPz, ite_bPo, xb_bP, iZ_xin, if_pos, ite_self, ↓reduceIte, Int.reduceAdd, Int.reduceSub, Int.reduceMul, Int.reduceNeg, Int.reduceLT, Int.reduceLE, if_neg, e0, iZ_clampN, f1, ho, c1N, c1', e4, iZ_ndn, e3]
theorem x_planHeap {A : dA} {M : xM} (hA : aOk A) (f0 : xI M (5, 0) 0 = iZ (aP A)) (hT : cOr M 0 0 on1 (ordA A) (leaA A) (2 ^ aP A)) {k : Int} (hk : r32 k) : ∃ M', fX2_planHeap [.inr (.inr (2, 0)), .inl (iZ (k))] M = some (some (.inl (iZ (plO (plH A k)))), M') ∧ xSame (fun r => r = (34, 0)) M M' := by
  have hP := hA.P
  have h9 := pow9 hP
  have bl : ∀ h, 1 ≤ h → h < 2 ^ aP A → -1 ≤ (leaA A h).1 ∧ (leaA A h).1 ≤ 600000 := fun h q1 q2 => by have := leaA_b hA q1; omega
  have how := x_ofWhole (M := M) (what := 1) f0 hP (by omega) hT (by unfold r32; omega) bl
  rw [if_neg (by omega)] at how
  have hww := x_whole (M := M) (s := 0) f0 hP
  unfold r32 at hk
  unfold plH
  by_cases c0 : 0 ≤ k ∧ k < 9
  · by_cases cP : aP A = 0
    · rw [if_pos cP] at how
      rw [if_neg (fun z => z.2.2.1 cP)]
      refine ⟨M, ?_, xSame.rf⟩
      show _ = (some (some (.inl (iZ (-1))), M) : Option (Option xV × xM))
      have lg : lg_cmp (lZ (-1)) (-1) = iZ 0 := by rw [lg_eq]; exact lZ_m1.symm
      show xfix gX2_planHeap (0, [some (.inr (.inr (2, 0))), some (.inl (iZ (k))), none, none, none, none], [], M) = _; rw [xfix_unf, sX2_planHeap_0]
      simp (disch := omega) only [xk_none, xk_inl, xk_inr, xk_ite, xri_v, xrl_v, xrv_v, xb_z0, xb_z1, xb_b2, if_true, if_false, ite_true, ite_false, iZ_lit, iZ_m1, iZ_m99, iZ_m8, iZ_add, iZ_sub, iZ_mul, iZ_neg, nz0, nzi, iZ_lt, iZ_le, iZ_inj, b2_z, b2_o, ite_bPz, ite_bPo, xb_bP, iZ_xin, if_pos, ite_self, ↓reduceIte, Int.reduceAdd, Int.reduceSub, Int.reduceMul, Int.reduceNeg, Int.reduceLT, Int.reduceLE, if_neg, how, lg]
    · rw [if_neg cP] at how
      have h2 : 2 ≤ 2 ^ aP A := by
        calc 2 = 2 ^ 1 := rfl
          _ ≤ 2 ^ aP A := Nat.pow_le_pow_right (by omega) (by omega)
      have b := bl (2 ^ aP A - 1) (by omega) (by omega)
      by_cases cL : (leaA A (2 ^ aP A - 1)).1 = -1
      · rw [if_neg (fun z => z.2.2.2 cL)]
        rw [cL] at how
        refine ⟨M, ?_, xSame.rf⟩
        show _ = (some (some (.inl (iZ (-1))), M) : Option (Option xV × xM))
        have lg : lg_cmp (lZ (-1)) (-1) = iZ 0 := by rw [lg_eq]; exact lZ_m1.symm
        show xfix gX2_planHeap (0, [some (.inr (.inr (2, 0))), some (.inl (iZ (k))), none, none, none, none], [], M) = _; rw [xfix_unf, sX2_planHeap_0]
        simp (disch := omega) only [xk_none, xk_inl, xk_inr, xk_ite, xri_v, xrl_v, xrv_v, xb_z0, xb_z1, xb_b2, if_true, if_false, ite_true, ite_false, iZ_lit, iZ_m1, iZ_m99, iZ_m8, iZ_add, iZ_sub, iZ_mul, iZ_neg, nz0, nzi, iZ_lt, iZ_le, iZ_inj, b2_z, b2_o, ite_bPz, ite_bPo, xb_bP, iZ_xin, if_pos, ite_self, ↓reduceIte, Int.reduceAdd, Int.reduceSub, Int.reduceMul, Int.reduceNeg, Int.reduceLT, Int.reduceLE, if_neg, how, lg]
      · rw [if_pos ⟨c0.1, c0.2, cP, cL⟩]
        have lg : ¬ lg_cmp (lZ (leaA A (2 ^ aP A - 1)).1) (-1) = iZ 0 := by
          rw [lg_eq, lZ_m1, lZ_inj (by omega) (by omega)]; exact cL
        obtain ⟨kn, rfl⟩ : ∃ n : Nat, k = n := ⟨k.toNat, by omega⟩
        have ew : ((2 ^ aP A : Nat) : Int) - 1 = ((2 ^ aP A - 1 : Nat) : Int) := by omega
        rw [ew] at hww
        obtain ⟨N', g1, g2⟩ := x_plan44 (k := kn) hA hT (by omega) 18 [2 ^ aP A - 1] 0 0 (xpI M (34, 0) 0 (iZ ((2 ^ aP A - 1 : Nat) : Int))) (by omega) (xSame.rf.pI rfl) ⟨pR_eq, trivial⟩ (fun h hh => by
          have e := List.mem_singleton.mp hh
          rw [e]; exact ⟨by omega, by omega, cL⟩) (by show bc _ + 0 ≤ 9; have := bc_le (2 ^ aP A - 1); omega) (by show 2 * bc _ - 1 + 0 < 18; have := bc_le (2 ^ aP A - 1); omega) (by omega)
        refine ⟨N', ?_, g2⟩
        rw [Int.toNat_natCast]
        refine Eq.trans ?_ g1
        have z0 : ((0 : Nat) : Int) = 0 := rfl
        have z1 : (([2 ^ aP A - 1].length : Nat) : Int) = 1 := rfl
        rw [z0, z1]
        have hW : 2 ^ aP A - 1 < 512 := by omega
        generalize (leaA A (2 ^ aP A - 1)).1 = lw at *
        generalize 2 ^ aP A - 1 = W at *
        show xfix gX2_planHeap (0, [some (.inr (.inr (2, 0))), some (.inl (iZ (kn))), none, none, none, none], [], M) = _; rw [xfix_unf, sX2_planHeap_0]
        simp (disch := omega) only [xk_none, xk_inl, xk_inr, xk_ite, xri_v, xrl_v, xrv_v, xb_z0, xb_z1, xb_b2, if_true, if_false, ite_true, ite_false, iZ_lit, iZ_m1, iZ_m99, iZ_m8, iZ_add, iZ_sub, iZ_mul, iZ_neg, nz0, nzi, iZ_lt, iZ_le, iZ_inj, b2_z, b2_o, ite_bPz, ite_bPo, xb_bP, iZ_xin, if_pos, ite_self, ↓reduceIte, Int.reduceAdd, Int.reduceSub, Int.reduceMul, Int.reduceNeg, Int.reduceLT, Int.reduceLE, if_neg, ↓xrl_some how, if_neg lg, hww, cl_0]
  · rw [if_neg (fun z => c0 ⟨z.1, z.2.1⟩)]
    refine ⟨M, ?_, xSame.rf⟩
    show _ = (some (some (.inl (iZ (-1))), M) : Option (Option xV × xM))
    by_cases c1 : k < 0
    · show xfix gX2_planHeap (0, [some (.inr (.inr (2, 0))), some (.inl (iZ (k))), none, none, none, none], [], M) = _; rw [xfix_unf, sX2_planHeap_0]
      simp (disch := omega) only [xk_none, xk_inl, xk_inr, xk_ite, xri_v, xrl_v, xrv_v, xb_z0, xb_z1, xb_b2, if_true, if_false, ite_true, ite_false, iZ_lit, iZ_m1, iZ_m99, iZ_m8, iZ_add, iZ_sub, iZ_mul, iZ_neg, nz0, nzi, iZ_lt, iZ_le, iZ_inj, b2_z, b2_o, ite_bPz, ite_bPo, xb_bP, iZ_xin, if_pos, ite_self, ↓reduceIte, Int.reduceAdd, Int.reduceSub, Int.reduceMul, Int.reduceNeg, Int.reduceLT, Int.reduceLE, if_neg]
    · show xfix gX2_planHeap (0, [some (.inr (.inr (2, 0))), some (.inl (iZ (k))), none, none, none, none], [], M) = _; rw [xfix_unf, sX2_planHeap_0]
      simp (disch := omega) only [xk_none, xk_inl, xk_inr, xk_ite, xri_v, xrl_v, xrv_v, xb_z0, xb_z1, xb_b2, if_true, if_false, ite_true, ite_false, iZ_lit, iZ_m1, iZ_m99, iZ_m8, iZ_add, iZ_sub, iZ_mul, iZ_neg, nz0, nzi, iZ_lt, iZ_le, iZ_inj, b2_z, b2_o, ite_bPz, ite_bPo, xb_bP, iZ_xin, if_pos, ite_self, ↓reduceIte, Int.reduceAdd, Int.reduceSub, Int.reduceMul, Int.reduceNeg, Int.reduceLT, Int.reduceLE, if_neg]
