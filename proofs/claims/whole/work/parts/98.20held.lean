/-! the class: what must be held -/
noncomputable def rit (A : dA) (heap fl s : Nat) : Nat → Nat
  | 0 => s
  | k + 1 => rpas A heap fl (rit A heap fl s k) (aP A)
theorem bc_P : ∀ P, P ≤ 9 → bc (2 ^ P - 1) = P := by decide +kernel
theorem bc_le_P {P a : Nat} (hP : P ≤ 9) (h : a < 2 ^ P) : bc a ≤ P := by
  have e := bc_P P hP
  have : bc a ≤ bc (2 ^ P - 1) := fb_ct_sub fun k hk hb => by
    rw [Nat.testBit_two_pow_sub_one]; exact decide_eq_true (bit_lt h hb)
  omega
theorem bc_ss {a b : Nat} (hb : b < 512) (h : ∀ q, a.testBit q = true → b.testBit q = true) (hn : a ≠ b) : bc a < bc b := by
  have h1 : a &&& b = a := ndn_and.mp (ndn_z.mpr h)
  have h2 := bc_add h1
  have h3 : ndn b a ≠ 0 := fun z => hn (Nat.le_antisymm (le_bits h) (ndn_sub z))
  have h4 : ndn b a < 512 := Nat.lt_of_le_of_lt (ndn_le b a) hb
  have h5 : bc (ndn b a) ≠ 0 := fun z => h3 ((bc_0 h4).mp z)
  omega
/-- how a set that rests grows -/
def ritS (A : dA) (heap fl set s : Nat) : Prop := s < 512 ∧ (∀ q, set.testBit q = true → s.testBit q = true) ∧ (∀ q, q < aP A → heap.testBit q = true → lowS A q = fl → s.testBit q = true) ∧ ∀ q, s.testBit q = true → rst A heap fl set q
theorem ritS.lt {A : dA} {heap fl set s : Nat} (h : ritS A heap fl set s) : s < 512 := h.1
theorem ritS.st {A : dA} {heap fl set s : Nat} (h : ritS A heap fl set s) : ∀ q, set.testBit q = true → s.testBit q = true := h.2.1
theorem ritS.gr {A : dA} {heap fl set s : Nat} (h : ritS A heap fl set s) : ∀ q, q < aP A → heap.testBit q = true → lowS A q = fl → s.testBit q = true := h.2.2.1
theorem ritS.rs {A : dA} {heap fl set s : Nat} (h : ritS A heap fl set s) : ∀ q, s.testBit q = true → rst A heap fl set q := h.2.2.2
theorem ritS.nx {A : dA} {heap fl set s : Nat} (hP : aP A ≤ 9) (h : ritS A heap fl set s) : ritS A heap fl set (rpas A heap fl s (aP A)) :=
  ⟨rpas_lt h.lt _ hP, fun q hq => rpas_ge _ q (h.st q hq), fun q a b c => rpas_ge _ q (h.gr q a b c), fun q hq => rpas_rst h.rs _ (Nat.le_refl _) q hq⟩
theorem ritS.it {A : dA} {heap fl set s : Nat} (hP : aP A ≤ 9) (h : ritS A heap fl set s) : ∀ k, ritS A heap fl set (rit A heap fl s k)
  | 0 => h
  | k + 1 => (ritS.it hP h k).nx hP
theorem rst_in {A : dA} {heap fl set q : Nat} (hs : ∀ q, set.testBit q = true → heap.testBit q = true) (h : rst A heap fl set q) : heap.testBit q = true := h (fun q => heap.testBit q = true) hs (fun q _ h _ => h)
theorem ritS.fix {A : dA} {heap fl set s : Nat} (h : ritS A heap fl set s) (hf : rpas A heap fl s (aP A) = s) : s = rstS A heap fl set := rstS_of h.lt h.st h.rs (rpas_fix hf)
theorem rit_grow {A : dA} {heap fl set s : Nat} (hP : aP A ≤ 9) (h : ritS A heap fl set s) (hr : rstS A heap fl set = heap) : ∀ k, (∀ j, j ≤ k → rit A heap fl s j ≠ heap) → k ≤ bc (rit A heap fl s k)
  | 0, _ => by omega
  | k + 1, hn => by
    have ih := rit_grow hP h hr k (fun j hj => hn j (by omega))
    have hk := ritS.it hP h k
    have hne : rit A heap fl s k ≠ rit A heap fl s (k + 1) := fun z => hn k (by omega) ((hk.fix z.symm).trans hr)
    have := bc_ss (ritS.it hP h (k + 1)).lt (fun q hq => rpas_ge (aP A) q hq) hne
    omega
theorem x_allRest {M : xM} {A : dA} {heap fl set s : Nat} (hA : aOk A) (f0 : xI M (5, 0) 0 = iZ (aP A)) (hU : cUn M A) (hh : heap < 2 ^ aP A) (hs : ∀ q, set.testBit q = true → heap.testBit q = true) (h : ritS A heap fl set s) : fX0_allRest [.inr (.inr (0, 0)), .inl (iZ (heap)), .inl (iZ (s))] M = some (some (.inl (bP (rstS A heap fl set = heap))), M) := by
  have hP := hA.P
  have h512 := Nat.lt_of_lt_of_le hh (pow9 hP).2
  have hsub : ∀ k q, (rit A heap fl s k).testBit q = true → heap.testBit q = true := fun k q hq => rst_in hs ((ritS.it hP h k).rs q hq)
  have toT : ∀ k, rit A heap fl s k = heap → rstS A heap fl set = heap := fun k e => by
    refine Nat.le_antisymm (le_bits fun q hq => rst_in hs ((msk_bit _ 9 q).mp hq).2) (le_bits fun q hq => (msk_bit _ 9 q).mpr ⟨bit_lt (n := 9) h512 hq, ?_⟩)
    rw [← e] at hq
    exact (ritS.it hP h k).rs q hq
  have lp := xfor_R (sg := gX0_allRest) (st := fun k K => (5, [some (.inr (.inr (0, 0))), some (.inl (iZ (heap))), none, some (.inl (iZ ((rit A heap fl s k)))), some (.inl (iZ (k))), none], [], K)) (I := fun k K => K = M ∧ ∀ j, j < k → rit A heap fl s j ≠ heap) (Q := fun o => o = some (some (.inl (bP (rstS A heap fl set = heap))), M)) (n := aP A) (fun k K hk hK => by
    obtain ⟨rfl, h1⟩ := hK
    have hsl := (ritS.it hP h k).lt
    by_cases e : rit A heap fl s k = heap
    · refine .inr ?_
      rw [bP_t (toT k e), e]
      rw [xfix_unf, sX0_allRest_5]
      simp (disch := omega) only [xk_none, xk_inl, xk_inr, xk_ite, xri_v, xrl_v, xrv_v, xb_z0, xb_z1, xb_b2, if_true, if_false, ite_true, ite_false, iZ_lit, iZ_m1, iZ_m99, iZ_m8, iZ_add, iZ_sub, iZ_mul, iZ_neg, nz0, nzi, iZ_lt, iZ_le, iZ_inj, b2_z, b2_o, ite_bPz, ite_bPo, xb_bP, iZ_xin, if_pos, ite_self, ↓reduceIte, Int.reduceAdd, Int.reduceSub, Int.reduceMul, Int.reduceNeg, Int.reduceLT, Int.reduceLE, if_neg, nS, iZ_clampN, iZ_bit, iZ_one, iZ_and, iZ_or, iZ_ndn, f0]
    · refine .inl ⟨K, ?_, rfl, fun j hj => ?_⟩
      · have hk' := ritS.it hP h k
        have eS : rit A heap fl s (k + 1) = rpas A heap fl (rit A heap fl s k) (aP A) := rfl
        show xfix gX0_allRest (5, [some (.inr (.inr (0, 0))), some (.inl (iZ (heap))), none, some (.inl (iZ ((rit A heap fl s k)))), some (.inl (iZ (k))), none], [], K) = xfix gX0_allRest (5, [some (.inr (.inr (0, 0))), some (.inl (iZ (heap))), none, some (.inl (iZ ((rit A heap fl s (k + 1))))), some (.inl (iZ (((k + 1 : Nat))))), none], [], K)
        rw [eS]
        generalize rit A heap fl s k = sk at *
        have inner := xfor_F (sg := gX0_allRest) (fun i => (25, [some (.inr (.inr (0, 0))), some (.inl (iZ (heap))), none, some (.inl (iZ ((rpas A heap fl sk i)))), some (.inl (iZ (k))), some (.inl (iZ (i)))], [], K)) (a := 0) (n := aP A) (by omega) (fun i _ hi => by
          have l1 := rpas_lt (A := A) (heap := heap) (fl := fl) hk'.lt i (by omega)
          have hu := (hU i hi).2
          have bl := belS_lt A i
          have l3 : belS A i &&& rpas A heap fl sk i < 512 := Nat.lt_of_le_of_lt Nat.and_le_left bl
          have e1 : rpas A heap fl sk (i + 1) = if heap.testBit i = true ∧ (lowS A i = fl ∨ (belS A i &&& rpas A heap fl sk i) ≠ 0) then rpas A heap fl sk i ||| 2 ^ i else rpas A heap fl sk i := rfl
          by_cases y : heap.testBit i = true
          · by_cases y2 : belS A i &&& rpas A heap fl sk i = 0
            · have e2 : rpas A heap fl sk (i + 1) = rpas A heap fl sk i := by
                rw [e1]
                by_cases y3 : lowS A i = fl
                · rw [if_pos ⟨y, .inl y3⟩]
                  refine Nat.eq_of_testBit_eq fun q => ?_
                  rw [Nat.testBit_or, Nat.testBit_two_pow]
                  by_cases w : i = q
                  · subst w
                    rw [rpas_ge i i (hk'.gr i hi y y3)]; rfl
                  · rw [decide_eq_false w, Bool.or_false]
                · rw [if_neg (fun z => z.2.elim y3 (fun z => z y2))]
              rw [e2, nS]
              generalize rpas A heap fl sk i = u at *
              generalize belS A i = bb at *
              generalize ez : bb &&& u = z at *
              subst y2
              rw [xfix_unf, sX0_allRest_25]
              simp (disch := omega) only [xk_none, xk_inl, xk_inr, xk_ite, xri_v, xrl_v, xrv_v, xb_z0, xb_z1, xb_b2, if_true, if_false, ite_true, ite_false, iZ_lit, iZ_m1, iZ_m99, iZ_m8, iZ_add, iZ_sub, iZ_mul, iZ_neg, nz0, nzi, iZ_lt, iZ_le, iZ_inj, b2_z, b2_o, ite_bPz, ite_bPo, xb_bP, iZ_xin, if_pos, ite_self, ↓reduceIte, Int.reduceAdd, Int.reduceSub, Int.reduceMul, Int.reduceNeg, Int.reduceLT, Int.reduceLE, if_neg, nS, iZ_clampN, iZ_bit, iZ_one, iZ_and, iZ_or, iZ_ndn, f0, bP_t y, hu, ez]
            · have e2 : rpas A heap fl sk (i + 1) = rpas A heap fl sk i ||| 2 ^ i := by rw [e1, if_pos ⟨y, .inr y2⟩]
              rw [e2, nS]
              generalize rpas A heap fl sk i = u at *
              generalize belS A i = bb at *
              generalize ez : bb &&& u = z at *
              rw [xfix_unf, sX0_allRest_25]
              simp (disch := omega) only [xk_none, xk_inl, xk_inr, xk_ite, xri_v, xrl_v, xrv_v, xb_z0, xb_z1, xb_b2, if_true, if_false, ite_true, ite_false, iZ_lit, iZ_m1, iZ_m99, iZ_m8, iZ_add, iZ_sub, iZ_mul, iZ_neg, nz0, nzi, iZ_lt, iZ_le, iZ_inj, b2_z, b2_o, ite_bPz, ite_bPo, xb_bP, iZ_xin, if_pos, ite_self, ↓reduceIte, Int.reduceAdd, Int.reduceSub, Int.reduceMul, Int.reduceNeg, Int.reduceLT, Int.reduceLE, if_neg, nS, iZ_clampN, iZ_bit, iZ_one, iZ_and, iZ_or, iZ_ndn, f0, bP_t y, hu, ez]
          · have e2 : rpas A heap fl sk (i + 1) = rpas A heap fl sk i := by rw [e1, if_neg (fun z => y z.1)]
            rw [e2, nS]
            rw [xfix_unf, sX0_allRest_25]
            simp (disch := omega) only [xk_none, xk_inl, xk_inr, xk_ite, xri_v, xrl_v, xrv_v, xb_z0, xb_z1, xb_b2, if_true, if_false, ite_true, ite_false, iZ_lit, iZ_m1, iZ_m99, iZ_m8, iZ_add, iZ_sub, iZ_mul, iZ_neg, nz0, nzi, iZ_lt, iZ_le, iZ_inj, b2_z, b2_o, ite_bPz, ite_bPo, xb_bP, iZ_xin, if_pos, ite_self, ↓reduceIte, Int.reduceAdd, Int.reduceSub, Int.reduceMul, Int.reduceNeg, Int.reduceLT, Int.reduceLE, if_neg, nS, iZ_clampN, iZ_bit, iZ_one, iZ_and, iZ_or, iZ_ndn, f0, bP_f y])
        have t1 : xfix gX0_allRest (5, [some (.inr (.inr (0, 0))), some (.inl (iZ (heap))), none, some (.inl (iZ (sk))), some (.inl (iZ (k))), none], [], K) = xfix gX0_allRest (25, [some (.inr (.inr (0, 0))), some (.inl (iZ (heap))), none, some (.inl (iZ ((rpas A heap fl sk 0)))), some (.inl (iZ (k))), some (.inl (iZ (((0 : Nat)))))], [], K) := by
          have z0 : ((0 : Nat) : Int) = 0 := rfl
          show _ = xfix gX0_allRest (25, [some (.inr (.inr (0, 0))), some (.inl (iZ (heap))), none, some (.inl (iZ (sk))), some (.inl (iZ (k))), some (.inl (iZ (((0 : Nat)))))], [], K)
          rw [z0]
          rw [xfix_unf, sX0_allRest_5]
          simp (disch := omega) only [xk_none, xk_inl, xk_inr, xk_ite, xri_v, xrl_v, xrv_v, xb_z0, xb_z1, xb_b2, if_true, if_false, ite_true, ite_false, iZ_lit, iZ_m1, iZ_m99, iZ_m8, iZ_add, iZ_sub, iZ_mul, iZ_neg, nz0, nzi, iZ_lt, iZ_le, iZ_inj, b2_z, b2_o, ite_bPz, ite_bPo, xb_bP, iZ_xin, if_pos, ite_self, ↓reduceIte, Int.reduceAdd, Int.reduceSub, Int.reduceMul, Int.reduceNeg, Int.reduceLT, Int.reduceLE, if_neg, nS, iZ_clampN, iZ_bit, iZ_one, iZ_and, iZ_or, iZ_ndn, f0]
        refine (t1.trans inner).trans ?_
        rw [nS]
        generalize rpas A heap fl sk (aP A) = u at *
        rw [xfix_unf, sX0_allRest_25]
        simp (disch := omega) only [xk_none, xk_inl, xk_inr, xk_ite, xri_v, xrl_v, xrv_v, xb_z0, xb_z1, xb_b2, if_true, if_false, ite_true, ite_false, iZ_lit, iZ_m1, iZ_m99, iZ_m8, iZ_add, iZ_sub, iZ_mul, iZ_neg, nz0, nzi, iZ_lt, iZ_le, iZ_inj, b2_z, b2_o, ite_bPz, ite_bPo, xb_bP, iZ_xin, if_pos, ite_self, ↓reduceIte, Int.reduceAdd, Int.reduceSub, Int.reduceMul, Int.reduceNeg, Int.reduceLT, Int.reduceLE, if_neg, nS, iZ_clampN, iZ_bit, iZ_one, iZ_and, iZ_or, iZ_ndn, f0]
      · by_cases z : j = k
        · rw [z]; exact e
        · exact h1 j (by omega)) (fun K hK => by
    obtain ⟨rfl, h1⟩ := hK
    have hsl := (ritS.it hP h (aP A)).lt
    by_cases e : rit A heap fl s (aP A) = heap
    · rw [bP_t (toT _ e), e]
      rw [xfix_unf, sX0_allRest_5]
      simp (disch := omega) only [xk_none, xk_inl, xk_inr, xk_ite, xri_v, xrl_v, xrv_v, xb_z0, xb_z1, xb_b2, if_true, if_false, ite_true, ite_false, iZ_lit, iZ_m1, iZ_m99, iZ_m8, iZ_add, iZ_sub, iZ_mul, iZ_neg, nz0, nzi, iZ_lt, iZ_le, iZ_inj, b2_z, b2_o, ite_bPz, ite_bPo, xb_bP, iZ_xin, if_pos, ite_self, ↓reduceIte, Int.reduceAdd, Int.reduceSub, Int.reduceMul, Int.reduceNeg, Int.reduceLT, Int.reduceLE, if_neg, nS, iZ_clampN, iZ_bit, iZ_one, iZ_and, iZ_or, iZ_ndn, f0]
    · have nr : ¬ rstS A heap fl set = heap := fun z => by
        have g := rit_grow hP h z (aP A) (fun j hj => by
          by_cases w : j = aP A
          · rw [w]; exact e
          · exact h1 j (by omega))
        have l := bc_ss h512 (hsub (aP A)) e
        have l2 := bc_le_P hP hh
        omega
      rw [bP_f nr]
      generalize rit A heap fl s (aP A) = u at *
      rw [xfix_unf, sX0_allRest_5]
      simp (disch := omega) only [xk_none, xk_inl, xk_inr, xk_ite, xri_v, xrl_v, xrv_v, xb_z0, xb_z1, xb_b2, if_true, if_false, ite_true, ite_false, iZ_lit, iZ_m1, iZ_m99, iZ_m8, iZ_add, iZ_sub, iZ_mul, iZ_neg, nz0, nzi, iZ_lt, iZ_le, iZ_inj, b2_z, b2_o, ite_bPz, ite_bPo, xb_bP, iZ_xin, if_pos, ite_self, ↓reduceIte, Int.reduceAdd, Int.reduceSub, Int.reduceMul, Int.reduceNeg, Int.reduceLT, Int.reduceLE, if_neg, nS, iZ_clampN, iZ_bit, iZ_one, iZ_and, iZ_or, iZ_ndn, f0]) (a := 0) (M := M) (by omega) ⟨rfl, fun j hj => by omega⟩
  refine Eq.trans ?_ lp
  have z0 : ((0 : Nat) : Int) = 0 := rfl
  show _ = xfix gX0_allRest (5, [some (.inr (.inr (0, 0))), some (.inl (iZ (heap))), none, some (.inl (iZ (s))), some (.inl (iZ (((0 : Nat))))), none], [], M)
  rw [z0]
  show xfix gX0_allRest (0, [some (.inr (.inr (0, 0))), some (.inl (iZ (heap))), some (.inl (iZ (s))), none, none, none], [], M) = _; rw [xfix_unf, sX0_allRest_0]
  simp (disch := omega) only [xk_none, xk_inl, xk_inr, xk_ite, xri_v, xrl_v, xrv_v, xb_z0, xb_z1, xb_b2, if_true, if_false, ite_true, ite_false, iZ_lit, iZ_m1, iZ_m99, iZ_m8, iZ_add, iZ_sub, iZ_mul, iZ_neg, nz0, nzi, iZ_lt, iZ_le, iZ_inj, b2_z, b2_o, ite_bPz, ite_bPo, xb_bP, iZ_xin, if_pos, ite_self, ↓reduceIte, Int.reduceAdd, Int.reduceSub, Int.reduceMul, Int.reduceNeg, Int.reduceLT, Int.reduceLE, if_neg]
theorem onF_S {A : dA} {heap fl set : Nat} (hP : aP A ≤ 9) (hs : set < 512) : ritS A heap fl set (set ||| onF A heap fl (aP A)) :=
  ⟨Nat.or_lt_two_pow (n := 9) hs (msk_lt _ 9), fun q hq => by rw [Nat.testBit_or, hq]; rfl, fun q a b c => by
    rw [Nat.testBit_or, Bool.or_eq_true]
    exact .inr ((msk_bit _ 9 q).mpr ⟨by omega, a, b, c⟩), fun q hq => by
    rw [Nat.testBit_or, Bool.or_eq_true] at hq
    rcases hq with hq | hq
    · exact rst.held hq
    · obtain ⟨_, a, b, c⟩ := (msk_bit _ 9 q).mp hq
      exact rst.next a b (.inl c)⟩
theorem x_findHeld {M : xM} {A : dA} {heap fl : Nat} (hA : aOk A) (f0 : xI M (5, 0) 0 = iZ (aP A)) (hU : cUn M A) (h1 : 1 ≤ heap) (hh : heap < 2 ^ aP A) : fX0_findHeld [.inr (.inr (0, 0)), .inl (iZ (heap)), .inl (iZ ((onF A heap fl (aP A))))] M = some (some (.inl (iZ ((hldR A heap fl heap : Nat)))), M) := by
  have hP := hA.P
  have h512 := Nat.lt_of_lt_of_le hh (pow9 hP).2
  have gl : onF A heap fl (aP A) < 512 := msk_lt _ 9
  have z0 : (0 : Nat).testBit = fun _ => false := funext fun i => Nat.zero_testBit i
  have r0 := x_allRest (fl := fl) (set := 0) hA f0 hU hh (fun q hq => by rw [Nat.zero_testBit] at hq; cases hq) (onF_S hP (by omega))
  rw [Nat.zero_or] at r0
  by_cases e : rstS A heap fl 0 = heap
  · rw [bP_t e] at r0
    have hk : ∀ k, 1 ≤ k → hldR A heap fl k = 0 := fun k => by
      induction k with
      | zero => intro h; omega
      | succ k ih =>
        intro _
        show (if k &&& heap = k ∧ bc k < bc (hldR A heap fl k) ∧ rstS A heap fl k = heap then k else hldR A heap fl k) = 0
        by_cases z : k = 0
        · subst z
          have b0 : bc 0 = 0 := by decide
          have bh : bc heap ≠ 0 := fun z => by have := (bc_0 h512).mp z; omega
          rw [if_pos ⟨Nat.zero_and _, by show bc 0 < bc heap; omega, e⟩]
        · rw [ih (by omega), if_neg (fun w => by have b0 : bc 0 = 0 := by decide
                                                 omega)]
    rw [hk heap h1]
    have zz : ((0 : Nat) : Int) = 0 := rfl
    rw [zz]
    show xfix gX0_findHeld (0, [some (.inr (.inr (0, 0))), some (.inl (iZ (heap))), some (.inl (iZ ((onF A heap fl (aP A))))), none, none, none], [], M) = _; rw [xfix_unf, sX0_findHeld_0]
    simp (disch := omega) only [xk_none, xk_inl, xk_inr, xk_ite, xri_v, xrl_v, xrv_v, xb_z0, xb_z1, xb_b2, if_true, if_false, ite_true, ite_false, iZ_lit, iZ_m1, iZ_m99, iZ_m8, iZ_add, iZ_sub, iZ_mul, iZ_neg, nz0, nzi, iZ_lt, iZ_le, iZ_inj, b2_z, b2_o, ite_bPz, ite_bPo, xb_bP, iZ_xin, if_pos, ite_self, ↓reduceIte, Int.reduceAdd, Int.reduceSub, Int.reduceMul, Int.reduceNeg, Int.reduceLT, Int.reduceLE, if_neg, r0]
  · rw [bP_f e] at r0
    have h1R : hldR A heap fl 1 = heap := by
      show (if 0 &&& heap = 0 ∧ bc 0 < bc heap ∧ rstS A heap fl 0 = heap then 0 else heap) = heap
      rw [if_neg (fun z => e z.2.2)]
    generalize eg : onF A heap fl (aP A) = gr at *
    have hx := x_halvesOf (M := M) (heap := heap) h512
    obtain ⟨x', h', t1, t2⟩ := xfor_sub (σ := Nat) (sg := gX0_findHeld) (st := fun l h b => (22, [some (.inr (.inr (0, 0))), some (.inl (iZ (heap))), some (.inl (iZ (gr))), some (.inl (iZ (b))), some (.inl (iZ (h))), some (.inl (iZ (l)))], [], M)) (I := fun k b => b = hldR A heap fl k) (heap := heap) h512 (by omega)
      (fun k x _ hn hI => by
        rw [hI]
        show hldR A heap fl k = if k &&& heap = k ∧ bc k < bc (hldR A heap fl k) ∧ rstS A heap fl k = heap then k else hldR A heap fl k
        rw [if_neg (fun z => hn z.1)])
      (fun l h k x hl hhk hk hs hn hI => by
        have bl := hldR_le A heap fl k (by omega)
        have hnx := x_nextHalf (M := M) (heap := heap) (half := h) (by omega)
        rw [hn] at hnx
        have b1 := x_bitCount (M := M) (v := k) (by omega)
        have b2 := x_bitCount (M := M) (v := x) (by omega)
        have c1 := bc_le k
        have c2 := bc_le x
        have eS : hldR A heap fl (k + 1) = if k &&& heap = k ∧ bc k < bc (hldR A heap fl k) ∧ rstS A heap fl k = heap then k else hldR A heap fl k := rfl
        rw [← hI] at eS
        have hL : ((l + 1 : Nat) : Int) + -1 = (l : Int) := by omega
        by_cases y : bc k < bc x
        · have hr := x_allRest (M := M) (fl := fl) (set := k) hA f0 hU hh (ndn_z.mp (ndn_and.mpr hs)) (onF_S hP (by omega))
          rw [eg] at hr
          have hor : iZ (k : Int) ||| iZ (gr : Int) = iZ ((k ||| gr : Nat) : Int) := iZ_or k gr
          by_cases y2 : rstS A heap fl k = heap
          · rw [bP_t y2] at hr
            rw [if_pos ⟨hs, y, y2⟩] at eS
            refine ⟨k, ?_, eS.symm⟩
            generalize bc k = bk at *
            generalize bc x = bx at *
            generalize (k ||| gr : Nat) = R at *
            rw [xfix_unf, sX0_findHeld_22]
            simp (disch := omega) only [xk_none, xk_inl, xk_inr, xk_ite, xri_v, xrl_v, xrv_v, xb_z0, xb_z1, xb_b2, if_true, if_false, ite_true, ite_false, iZ_lit, iZ_m1, iZ_m99, iZ_m8, iZ_add, iZ_sub, iZ_mul, iZ_neg, nz0, nzi, iZ_lt, iZ_le, iZ_inj, b2_z, b2_o, ite_bPz, ite_bPo, xb_bP, iZ_xin, if_pos, ite_self, ↓reduceIte, Int.reduceAdd, Int.reduceSub, Int.reduceMul, Int.reduceNeg, Int.reduceLT, Int.reduceLE, if_neg, hnx, b1, b2, hor, hr, hL]
          · rw [bP_f y2] at hr
            rw [if_neg (fun z => y2 z.2.2)] at eS
            refine ⟨x, ?_, eS.symm⟩
            generalize bc k = bk at *
            generalize bc x = bx at *
            generalize (k ||| gr : Nat) = R at *
            rw [xfix_unf, sX0_findHeld_22]
            simp (disch := omega) only [xk_none, xk_inl, xk_inr, xk_ite, xri_v, xrl_v, xrv_v, xb_z0, xb_z1, xb_b2, if_true, if_false, ite_true, ite_false, iZ_lit, iZ_m1, iZ_m99, iZ_m8, iZ_add, iZ_sub, iZ_mul, iZ_neg, nz0, nzi, iZ_lt, iZ_le, iZ_inj, b2_z, b2_o, ite_bPz, ite_bPo, xb_bP, iZ_xin, if_pos, ite_self, ↓reduceIte, Int.reduceAdd, Int.reduceSub, Int.reduceMul, Int.reduceNeg, Int.reduceLT, Int.reduceLE, if_neg, hnx, b1, b2, hor, hr, hL]
        · rw [if_neg (fun z => y z.2.1)] at eS
          refine ⟨x, ?_, eS.symm⟩
          generalize bc k = bk at *
          generalize bc x = bx at *
          rw [xfix_unf, sX0_findHeld_22]
          simp (disch := omega) only [xk_none, xk_inl, xk_inr, xk_ite, xri_v, xrl_v, xrv_v, xb_z0, xb_z1, xb_b2, if_true, if_false, ite_true, ite_false, iZ_lit, iZ_m1, iZ_m99, iZ_m8, iZ_add, iZ_sub, iZ_mul, iZ_neg, nz0, nzi, iZ_lt, iZ_le, iZ_inj, b2_z, b2_o, ite_bPz, ite_bPo, xb_bP, iZ_xin, if_pos, ite_self, ↓reduceIte, Int.reduceAdd, Int.reduceSub, Int.reduceMul, Int.reduceNeg, Int.reduceLT, Int.reduceLE, if_neg, hnx, b1, b2, hL]) (x := heap) h1R.symm
    have hp2 : (2 : Nat) ≤ 2 ^ bc heap := by
      have bh : bc heap ≠ 0 := fun z => by have := (bc_0 h512).mp z; omega
      calc 2 = 2 ^ 1 := rfl
        _ ≤ 2 ^ bc heap := Nat.pow_le_pow_right (by omega) (by omega)
    have t0 : fX0_findHeld [.inr (.inr (0, 0)), .inl (iZ (heap)), .inl (iZ (gr))] M = xfix gX0_findHeld (22, [some (.inr (.inr (0, 0))), some (.inl (iZ (heap))), some (.inl (iZ (gr))), some (.inl (iZ (heap))), some (.inl (iZ (((0 : Nat))))), some (.inl (iZ (((2 ^ bc heap - 2 : Nat)))))], [], M) := by
      have zz : ((0 : Nat) : Int) = 0 := rfl
      have ep : ((2 ^ bc heap - 2 : Nat) : Int) = ((2 ^ bc heap : Nat) : Int) - 2 := by omega
      rw [zz, ep]
      generalize ((2 ^ bc heap : Nat) : Int) - 2 = H at *
      show xfix gX0_findHeld (0, [some (.inr (.inr (0, 0))), some (.inl (iZ (heap))), some (.inl (iZ (gr))), none, none, none], [], M) = _; rw [xfix_unf, sX0_findHeld_0]
      simp (disch := omega) only [xk_none, xk_inl, xk_inr, xk_ite, xri_v, xrl_v, xrv_v, xb_z0, xb_z1, xb_b2, if_true, if_false, ite_true, ite_false, iZ_lit, iZ_m1, iZ_m99, iZ_m8, iZ_add, iZ_sub, iZ_mul, iZ_neg, nz0, nzi, iZ_lt, iZ_le, iZ_inj, b2_z, b2_o, ite_bPz, ite_bPo, xb_bP, iZ_xin, if_pos, ite_self, ↓reduceIte, Int.reduceAdd, Int.reduceSub, Int.reduceMul, Int.reduceNeg, Int.reduceLT, Int.reduceLE, if_neg, r0, hx]
    refine t0.trans (t1.trans ?_)
    have zz : ((0 : Nat) : Int) = 0 := rfl
    rw [zz, t2]
    generalize hldR A heap fl heap = R at *
    rw [xfix_unf, sX0_findHeld_22]
    simp (disch := omega) only [xk_none, xk_inl, xk_inr, xk_ite, xri_v, xrl_v, xrv_v, xb_z0, xb_z1, xb_b2, if_true, if_false, ite_true, ite_false, iZ_lit, iZ_m1, iZ_m99, iZ_m8, iZ_add, iZ_sub, iZ_mul, iZ_neg, nz0, nzi, iZ_lt, iZ_le, iZ_inj, b2_z, b2_o, ite_bPz, ite_bPo, xb_bP, iZ_xin, if_pos, ite_self, ↓reduceIte, Int.reduceAdd, Int.reduceSub, Int.reduceMul, Int.reduceNeg, Int.reduceLT, Int.reduceLE, if_neg]
theorem held_min {A : dA} {heap fl : Nat} (h1 : 1 ≤ heap) (hh : heap < 2 ^ aP A) (hP : aP A ≤ 9) : bc (hldR A heap fl heap) = fw A heap fl := by
  have h512 := Nat.lt_of_lt_of_le hh (pow9 hP).2
  have hself : rstS A heap fl heap = heap := by
    refine Nat.le_antisymm (le_bits fun q hq => rst_in (fun _ z => z) ((msk_bit _ 9 q).mp hq).2) (le_bits fun q hq => (msk_bit _ 9 q).mpr ⟨bit_lt (n := 9) h512 hq, rst.held hq⟩)
  have key : ∀ i, i ≤ heap → (hldR A heap fl i &&& heap = hldR A heap fl i ∧ rstS A heap fl (hldR A heap fl i) = heap ∧ hldR A heap fl i ≤ heap) ∧ bc (hldR A heap fl i) ≤ bc heap ∧ ∀ k, k < i → k &&& heap = k → rstS A heap fl k = heap → bc (hldR A heap fl i) ≤ bc k := fun i => by
    induction i with
    | zero => exact fun _ => ⟨⟨Nat.and_self _, hself, Nat.le_refl _⟩, Nat.le_refl _, fun k hk => by omega⟩
    | succ i ih =>
      intro hi
      obtain ⟨⟨a1, a2, a3⟩, a4, a5⟩ := ih (by omega)
      have eS : hldR A heap fl (i + 1) = if i &&& heap = i ∧ bc i < bc (hldR A heap fl i) ∧ rstS A heap fl i = heap then i else hldR A heap fl i := rfl
      by_cases y : i &&& heap = i ∧ bc i < bc (hldR A heap fl i) ∧ rstS A heap fl i = heap
      · rw [if_pos y] at eS
        rw [eS]
        refine ⟨⟨y.1, y.2.2, by omega⟩, by omega, fun k hk h2 h3 => ?_⟩
        by_cases z : k = i
        · rw [z]; exact Nat.le_refl _
        · have := a5 k (by omega) h2 h3; omega
      · rw [if_neg y] at eS
        rw [eS]
        refine ⟨⟨a1, a2, a3⟩, a4, fun k hk h2 h3 => ?_⟩
        by_cases z : k = i
        · subst z
          exact Classical.byContradiction fun w => y ⟨h2, by omega, h3⟩
        · exact a5 k (by omega) h2 h3
  obtain ⟨⟨a1, a2, a3⟩, a4, a5⟩ := key heap (Nat.le_refl _)
  refine (lst_eq (bc_le _) (fun n hn ⟨k, k1, k2, k3, k4, k5⟩ => ?_) (fun _ => ⟨_, Nat.zero_le _, a3, a1, rfl, a2⟩)).symm
  by_cases z : k = heap
  · subst z; omega
  · have := a5 k (by omega) k3 k5; omega
