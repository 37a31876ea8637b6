/-! the class: mirrors -/
theorem x_becomeMirror {M : xM} {k j ax : Nat} (hkj : k ≠ j) (hax : ax < 3) : ∃ M', fX6_becomeMirror [.inr (.inr (6, k)), .inr (.inr (6, j)), .inl (iZ (ax))] M = some (none, M') ∧ xSame (fun r => r = (44, k)) M M' ∧ ∀ c, c < 512 → (sB M' k c = true ↔ ∃ o, o < 512 ∧ sB M j o = true ∧ ∀ a, a < 3 → (alg c a : Int) = if a = ax then 7 - (alg o a : Int) else alg o a) := by
  obtain ⟨M1, a1, a2, a3⟩ := x_wipe (M := M) (k := k)
  obtain ⟨J, eJ⟩ : ∃ J : Nat → xM → Prop, J = fun n K => xSame (fun r => r = (44, k)) M K ∧ ∀ c, c < 512 → (sB K k c = true ↔ ∃ o, o < n ∧ sB M j o = true ∧ ∀ a, a < 3 → (alg c a : Int) = if a = ax then 7 - (alg o a : Int) else alg o a) := ⟨_, rfl⟩
  have one : ∀ x y z K, x < 8 → y < 8 → z < 8 → J (64 * z + 8 * y + x) K → ∃ K', xfix gX6_becomeMirror (25, [some (.inr (.inr (6, k))), some (.inr (.inr (6, j))), some (.inl (iZ (ax))), some (.inl (iZ (z))), some (.inl (iZ (y))), some (.inl (iZ (x)))], [], K) = xfix gX6_becomeMirror (25, [some (.inr (.inr (6, k))), some (.inr (.inr (6, j))), some (.inl (iZ (ax))), some (.inl (iZ (z))), some (.inl (iZ (y))), some (.inl (iZ (((x : Int) + 1))))], [], K') ∧ J (64 * z + 8 * y + x + 1) K' := fun x y z K hx hy hz hJ => by
    rw [eJ] at hJ ⊢
    obtain ⟨j1, j2⟩ := hJ
    have hh := x_has (M := K) (k := j) (x := (x : Int)) (y := (y : Int)) (z := (z : Int)) (by unfold r32; omega) (by unfold r32; omega) (by unfold r32; omega)
    have e : (64 * (z : Int) + 8 * (y : Int) + (x : Int)).toNat = 64 * z + 8 * y + x := by omega
    rw [e, sB_same j1 (by simpa using fun q => hkj q.symm) _] at hh
    by_cases q : sB M j (64 * z + 8 * y + x) = true
    · rw [bP_t ⟨by omega, q⟩] at hh
      obtain ⟨mx, emx⟩ : ∃ mx : Nat, mx = if ax = 0 then 7 - x else x := ⟨_, rfl⟩
      obtain ⟨my, emy⟩ : ∃ my : Nat, my = if ax = 1 then 7 - y else y := ⟨_, rfl⟩
      obtain ⟨mz, emz⟩ : ∃ mz : Nat, mz = if ax = 2 then 7 - z else z := ⟨_, rfl⟩
      have mx8 : mx < 8 := by rw [emx]; split <;> omega
      have my8 : my < 8 := by rw [emy]; split <;> omega
      have mz8 : mz < 8 := by rw [emz]; split <;> omega
      obtain ⟨K', p1, p2, p3⟩ := x_put (M := K) (k := k) mx8 my8 mz8
      refine ⟨K', ?_, j1.tr p2, fun c hc => ?_⟩
      · have t74 : xfix gX6_becomeMirror (25, [some (.inr (.inr (6, k))), some (.inr (.inr (6, j))), some (.inl (iZ (ax))), some (.inl (iZ (z))), some (.inl (iZ (y))), some (.inl (iZ (x)))], [], K) = xfix gX6_becomeMirror (74, [some (.inr (.inr (6, k))), some (.inr (.inr (6, j))), some (.inl (iZ (ax))), some (.inl (iZ (z))), some (.inl (iZ (y))), some (.inl (iZ (x)))], [.inl (iZ (my)), .inl (iZ (mx)), .inr (.inr (6, k))], K) := by
          have x7 : ((7 - x : Nat) : Int) = 7 - (x : Int) := by omega
          have y7 : ((7 - y : Nat) : Int) = 7 - (y : Int) := by omega
          clear j2 p3
          rcases (by omega : ax = 0 ∨ ax = 1 ∨ ax = 2) with e0 | e0 | e0 <;> subst e0
          · rw [if_pos rfl] at emx
            rw [if_neg (by omega)] at emy
            rw [emx, emy, x7]
            have z0 : ((0 : Nat) : Int) = 0 := rfl
            rw [z0]
            rw [xfix_unf, sX6_becomeMirror_25]
            simp (disch := omega) only [xk_none, xk_inl, xk_inr, xk_ite, xri_v, xrl_v, xrv_v, xb_z0, xb_z1, xb_b2, if_true, if_false, ite_true, ite_false, iZ_lit, iZ_m1, iZ_m99, iZ_m8, iZ_add, iZ_sub, iZ_mul, iZ_neg, nz0, nzi, iZ_lt, iZ_le, iZ_inj, b2_z, b2_o, ite_bPz, ite_bPo, xb_bP, iZ_xin, if_pos, ite_self, ↓reduceIte, Int.reduceAdd, Int.reduceSub, Int.reduceMul, Int.reduceNeg, Int.reduceLT, Int.reduceLE, if_neg, ↓xri_some hh]
          · rw [if_neg (by omega)] at emx
            rw [if_pos rfl] at emy
            rw [emx, emy, y7]
            have z0 : ((1 : Nat) : Int) = 1 := rfl
            rw [z0]
            rw [xfix_unf, sX6_becomeMirror_25]
            simp (disch := omega) only [xk_none, xk_inl, xk_inr, xk_ite, xri_v, xrl_v, xrv_v, xb_z0, xb_z1, xb_b2, if_true, if_false, ite_true, ite_false, iZ_lit, iZ_m1, iZ_m99, iZ_m8, iZ_add, iZ_sub, iZ_mul, iZ_neg, nz0, nzi, iZ_lt, iZ_le, iZ_inj, b2_z, b2_o, ite_bPz, ite_bPo, xb_bP, iZ_xin, if_pos, ite_self, ↓reduceIte, Int.reduceAdd, Int.reduceSub, Int.reduceMul, Int.reduceNeg, Int.reduceLT, Int.reduceLE, if_neg, ↓xri_some hh]
          · rw [if_neg (by omega)] at emx
            rw [if_neg (by omega)] at emy
            rw [emx, emy]
            have z0 : ((2 : Nat) : Int) = 2 := rfl
            rw [z0]
            rw [xfix_unf, sX6_becomeMirror_25]
            simp (disch := omega) only [xk_none, xk_inl, xk_inr, xk_ite, xri_v, xrl_v, xrv_v, xb_z0, xb_z1, xb_b2, if_true, if_false, ite_true, ite_false, iZ_lit, iZ_m1, iZ_m99, iZ_m8, iZ_add, iZ_sub, iZ_mul, iZ_neg, nz0, nzi, iZ_lt, iZ_le, iZ_inj, b2_z, b2_o, ite_bPz, ite_bPo, xb_bP, iZ_xin, if_pos, ite_self, ↓reduceIte, Int.reduceAdd, Int.reduceSub, Int.reduceMul, Int.reduceNeg, Int.reduceLT, Int.reduceLE, if_neg, ↓xri_some hh]
        rw [t74]
        clear t74 j2 p3
        by_cases e2 : ax = 2
        · rw [if_pos e2] at emz
          subst e2
          have z7 : ((mz : Nat) : Int) = 7 - (z : Int) := by omega
          rw [z7] at p1
          have z0 : ((2 : Nat) : Int) = 2 := rfl
          rw [z0]
          rw [xfix_unf, sX6_becomeMirror_74]
          simp (disch := omega) only [xk_none, xk_inl, xk_inr, xk_ite, xri_v, xrl_v, xrv_v, xb_z0, xb_z1, xb_b2, if_true, if_false, ite_true, ite_false, iZ_lit, iZ_m1, iZ_m99, iZ_m8, iZ_add, iZ_sub, iZ_mul, iZ_neg, nz0, nzi, iZ_lt, iZ_le, iZ_inj, b2_z, b2_o, ite_bPz, ite_bPo, xb_bP, iZ_xin, if_pos, ite_self, ↓reduceIte, Int.reduceAdd, Int.reduceSub, Int.reduceMul, Int.reduceNeg, Int.reduceLT, Int.reduceLE, if_neg, ↓xrv_some p1]
        · rw [if_neg e2] at emz
          rw [emz] at p1
          rw [xfix_unf, sX6_becomeMirror_74]
          simp (disch := omega) only [xk_none, xk_inl, xk_inr, xk_ite, xri_v, xrl_v, xrv_v, xb_z0, xb_z1, xb_b2, if_true, if_false, ite_true, ite_false, iZ_lit, iZ_m1, iZ_m99, iZ_m8, iZ_add, iZ_sub, iZ_mul, iZ_neg, nz0, nzi, iZ_lt, iZ_le, iZ_inj, b2_z, b2_o, ite_bPz, ite_bPo, xb_bP, iZ_xin, if_pos, ite_self, ↓reduceIte, Int.reduceAdd, Int.reduceSub, Int.reduceMul, Int.reduceNeg, Int.reduceLT, Int.reduceLE, if_neg, ↓xrv_some p1]
      · rw [p3 c hc, Bool.or_eq_true, decide_eq_true_eq, j2 c hc]
        have al : (∀ a, a < 3 → (alg c a : Int) = if a = ax then 7 - (alg (64 * z + 8 * y + x) a : Int) else alg (64 * z + 8 * y + x) a) ↔ c = 64 * mz + 8 * my + mx := by
          simp only [fa3, alg0, alg1, alg2]
          rw [emx, emy, emz]
          rcases (by omega : ax = 0 ∨ ax = 1 ∨ ax = 2) with e0 | e0 | e0 <;> subst e0 <;> simp <;> omega
        constructor
        · rintro (⟨o, o1, o2⟩ | q')
          · exact ⟨o, by omega, o2⟩
          · exact ⟨_, by omega, q, al.mpr q'⟩
        · rintro ⟨o, o1, o2, o3⟩
          by_cases eo : o = 64 * z + 8 * y + x
          · rw [eo] at o3; exact .inr (al.mp o3)
          · exact .inl ⟨o, by omega, o2, o3⟩
    · rw [bP_f (fun z => q z.2)] at hh
      refine ⟨K, ?_, j1, fun c hc => ?_⟩
      · clear j2
        rw [xfix_unf, sX6_becomeMirror_25]
        simp (disch := omega) only [xk_none, xk_inl, xk_inr, xk_ite, xri_v, xrl_v, xrv_v, xb_z0, xb_z1, xb_b2, if_true, if_false, ite_true, ite_false, iZ_lit, iZ_m1, iZ_m99, iZ_m8, iZ_add, iZ_sub, iZ_mul, iZ_neg, nz0, nzi, iZ_lt, iZ_le, iZ_inj, b2_z, b2_o, ite_bPz, ite_bPo, xb_bP, iZ_xin, if_pos, ite_self, ↓reduceIte, Int.reduceAdd, Int.reduceSub, Int.reduceMul, Int.reduceNeg, Int.reduceLT, Int.reduceLE, if_neg, ↓xri_some hh]
      · rw [j2 c hc]
        constructor
        · rintro ⟨o, o1, o2⟩; exact ⟨o, by omega, o2⟩
        · rintro ⟨o, o1, o2, o3⟩
          by_cases eo : o = 64 * z + 8 * y + x
          · rw [eo] at o2; exact absurd o2 q
          · exact ⟨o, by omega, o2, o3⟩
  have e8 : ((8 : Nat) : Int) = 8 := rfl
  have zz : ((0 : Nat) : Int) = 0 := rfl
  have rowY : ∀ y z K, y < 8 → z < 8 → J (64 * z + 8 * y) K → ∃ K', xfix gX6_becomeMirror (15, [some (.inr (.inr (6, k))), some (.inr (.inr (6, j))), some (.inl (iZ (ax))), some (.inl (iZ (z))), some (.inl (iZ (y))), none], [], K) = xfix gX6_becomeMirror (15, [some (.inr (.inr (6, k))), some (.inr (.inr (6, j))), some (.inl (iZ (ax))), some (.inl (iZ (z))), some (.inl (iZ (((y : Int) + 1)))), none], [], K') ∧ J (64 * z + 8 * (y + 1)) K' := fun y z K hy hz hJ => by
    obtain ⟨K', b1, b2⟩ := xfor_M (sg := gX6_becomeMirror) (st := fun x K => (25, [some (.inr (.inr (6, k))), some (.inr (.inr (6, j))), some (.inl (iZ (ax))), some (.inl (iZ (z))), some (.inl (iZ (y))), some (.inl (iZ (x)))], [], K)) (I := fun x K => J (64 * z + 8 * y + x) K) (n := 8) (fun x K hx hI => by
      rw [nS]; exact one x y z K hx hy hz hI) (a := 0) (M := K) (by omega) hJ
    refine ⟨K', ?_, b2⟩
    rw [zz, e8] at b1
    have t : xfix gX6_becomeMirror (15, [some (.inr (.inr (6, k))), some (.inr (.inr (6, j))), some (.inl (iZ (ax))), some (.inl (iZ (z))), some (.inl (iZ (y))), none], [], K) = xfix gX6_becomeMirror (25, [some (.inr (.inr (6, k))), some (.inr (.inr (6, j))), some (.inl (iZ (ax))), some (.inl (iZ (z))), some (.inl (iZ (y))), some (.inl (iZ ((0 : Int))))], [], K) := by
      clear one b1
      rw [xfix_unf, sX6_becomeMirror_15]
      simp (disch := omega) only [xk_none, xk_inl, xk_inr, xk_ite, xri_v, xrl_v, xrv_v, xb_z0, xb_z1, xb_b2, if_true, if_false, ite_true, ite_false, iZ_lit, iZ_m1, iZ_m99, iZ_m8, iZ_add, iZ_sub, iZ_mul, iZ_neg, nz0, nzi, iZ_lt, iZ_le, iZ_inj, b2_z, b2_o, ite_bPz, ite_bPo, xb_bP, iZ_xin, if_pos, ite_self, ↓reduceIte, Int.reduceAdd, Int.reduceSub, Int.reduceMul, Int.reduceNeg, Int.reduceLT, Int.reduceLE, if_neg]
    rw [t, b1]
    clear one t b1
    rw [xfix_unf, sX6_becomeMirror_25]
    simp (disch := omega) only [xk_none, xk_inl, xk_inr, xk_ite, xri_v, xrl_v, xrv_v, xb_z0, xb_z1, xb_b2, if_true, if_false, ite_true, ite_false, iZ_lit, iZ_m1, iZ_m99, iZ_m8, iZ_add, iZ_sub, iZ_mul, iZ_neg, nz0, nzi, iZ_lt, iZ_le, iZ_inj, b2_z, b2_o, ite_bPz, ite_bPo, xb_bP, iZ_xin, if_pos, ite_self, ↓reduceIte, Int.reduceAdd, Int.reduceSub, Int.reduceMul, Int.reduceNeg, Int.reduceLT, Int.reduceLE, if_neg]
  have rowZ : ∀ z K, z < 8 → J (64 * z) K → ∃ K', xfix gX6_becomeMirror (6, [some (.inr (.inr (6, k))), some (.inr (.inr (6, j))), some (.inl (iZ (ax))), some (.inl (iZ (z))), none, none], [], K) = xfix gX6_becomeMirror (6, [some (.inr (.inr (6, k))), some (.inr (.inr (6, j))), some (.inl (iZ (ax))), some (.inl (iZ (((z : Int) + 1)))), none, none], [], K') ∧ J (64 * (z + 1)) K' := fun z K hz hJ => by
    obtain ⟨K', b1, b2⟩ := xfor_M (sg := gX6_becomeMirror) (st := fun y K => (15, [some (.inr (.inr (6, k))), some (.inr (.inr (6, j))), some (.inl (iZ (ax))), some (.inl (iZ (z))), some (.inl (iZ (y))), none], [], K)) (I := fun y K => J (64 * z + 8 * y) K) (n := 8) (fun y K hy hI => by
      rw [nS]; exact rowY y z K hy hz hI) (a := 0) (M := K) (by omega) hJ
    refine ⟨K', ?_, b2⟩
    rw [zz, e8] at b1
    have t : xfix gX6_becomeMirror (6, [some (.inr (.inr (6, k))), some (.inr (.inr (6, j))), some (.inl (iZ (ax))), some (.inl (iZ (z))), none, none], [], K) = xfix gX6_becomeMirror (15, [some (.inr (.inr (6, k))), some (.inr (.inr (6, j))), some (.inl (iZ (ax))), some (.inl (iZ (z))), some (.inl (iZ ((0 : Int)))), none], [], K) := by
      clear one rowY b1
      rw [xfix_unf, sX6_becomeMirror_6]
      simp (disch := omega) only [xk_none, xk_inl, xk_inr, xk_ite, xri_v, xrl_v, xrv_v, xb_z0, xb_z1, xb_b2, if_true, if_false, ite_true, ite_false, iZ_lit, iZ_m1, iZ_m99, iZ_m8, iZ_add, iZ_sub, iZ_mul, iZ_neg, nz0, nzi, iZ_lt, iZ_le, iZ_inj, b2_z, b2_o, ite_bPz, ite_bPo, xb_bP, iZ_xin, if_pos, ite_self, ↓reduceIte, Int.reduceAdd, Int.reduceSub, Int.reduceMul, Int.reduceNeg, Int.reduceLT, Int.reduceLE, if_neg]
    rw [t, b1]
    clear one rowY t b1
    rw [xfix_unf, sX6_becomeMirror_15]
    simp (disch := omega) only [xk_none, xk_inl, xk_inr, xk_ite, xri_v, xrl_v, xrv_v, xb_z0, xb_z1, xb_b2, if_true, if_false, ite_true, ite_false, iZ_lit, iZ_m1, iZ_m99, iZ_m8, iZ_add, iZ_sub, iZ_mul, iZ_neg, nz0, nzi, iZ_lt, iZ_le, iZ_inj, b2_z, b2_o, ite_bPz, ite_bPo, xb_bP, iZ_xin, if_pos, ite_self, ↓reduceIte, Int.reduceAdd, Int.reduceSub, Int.reduceMul, Int.reduceNeg, Int.reduceLT, Int.reduceLE, if_neg]
  obtain ⟨M2, b1, b2⟩ := xfor_M (sg := gX6_becomeMirror) (st := fun z K => (6, [some (.inr (.inr (6, k))), some (.inr (.inr (6, j))), some (.inl (iZ (ax))), some (.inl (iZ (z))), none, none], [], K)) (I := fun z K => J (64 * z) K) (n := 8) (fun z K hz hI => by
    rw [nS]; exact rowZ z K hz hI) (a := 0) (M := M1) (by omega) (by
      rw [eJ]
      refine ⟨a2, fun c hc => ?_⟩
      rw [a3 c hc]
      exact ⟨fun z => (by cases z), fun ⟨o, o1, _⟩ => by omega⟩)
  rw [eJ] at b2
  refine ⟨M2, ?_, b2.1, b2.2⟩
  rw [zz, e8] at b1
  clear one rowY rowZ
  show xfix gX6_becomeMirror (0, [some (.inr (.inr (6, k))), some (.inr (.inr (6, j))), some (.inl (iZ (ax))), none, none, none], [], M) = _; rw [xfix_unf, sX6_becomeMirror_0]
  simp (disch := omega) only [xk_none, xk_inl, xk_inr, xk_ite, xri_v, xrl_v, xrv_v, xb_z0, xb_z1, xb_b2, if_true, if_false, ite_true, ite_false, iZ_lit, iZ_m1, iZ_m99, iZ_m8, iZ_add, iZ_sub, iZ_mul, iZ_neg, nz0, nzi, iZ_lt, iZ_le, iZ_inj, b2_z, b2_o, ite_bPz, ite_bPo, xb_bP, iZ_xin, if_pos, ite_self, ↓reduceIte, Int.reduceAdd, Int.reduceSub, Int.reduceMul, Int.reduceNeg, Int.reduceLT, Int.reduceLE, if_neg, a1]
  refine Eq.trans b1 ?_
  rw [xfix_unf, sX6_becomeMirror_6]
  simp (disch := omega) only [xk_none, xk_inl, xk_inr, xk_ite, xri_v, xrl_v, xrv_v, xb_z0, xb_z1, xb_b2, if_true, if_false, ite_true, ite_false, iZ_lit, iZ_m1, iZ_m99, iZ_m8, iZ_add, iZ_sub, iZ_mul, iZ_neg, nz0, nzi, iZ_lt, iZ_le, iZ_inj, b2_z, b2_o, ite_bPz, ite_bPo, xb_bP, iZ_xin, if_pos, ite_self, ↓reduceIte, Int.reduceAdd, Int.reduceSub, Int.reduceMul, Int.reduceNeg, Int.reduceLT, Int.reduceLE, if_neg]
/-! counting -/
theorem cn_rem {S : Nat → Prop} {t : Nat} : ∀ {n : Nat}, t < n → S t → sm (fun c => ind (S c)) n = sm (fun c => ind (S c ∧ c ≠ t)) n + 1
  | 0, h, _ => by omega
  | n + 1, h, hS => by
    show sm (fun c => ind (S c)) n + ind (S n) = sm (fun c => ind (S c ∧ c ≠ t)) n + ind (S n ∧ n ≠ t) + 1
    by_cases e : t = n
    · have e1 : sm (fun c => ind (S c)) n = sm (fun c => ind (S c ∧ c ≠ t)) n := sm_cg fun k hk => by
        rw [show (S k ∧ k ≠ t) = S k from propext ⟨fun z => z.1, fun z => ⟨z, by omega⟩⟩]
      rw [e1, ind_t (by rw [← e]; exact hS), ind_f (fun z => z.2 e.symm)]
      omega
    · rw [cn_rem (n := n) (by omega) hS, show (S n ∧ n ≠ t) = S n from propext ⟨fun z => z.1, fun z => ⟨z, by omega⟩⟩]
      omega
theorem cn_rel {m : Nat} {R : Nat → Nat → Prop} : ∀ {n : Nat} {S T : Nat → Prop}, (∀ c, c < n → S c → ∃ u, u < m ∧ T u ∧ R c u) → (∀ c d u, c < n → d < n → S c → S d → R c u → R d u → c = d) → sm (fun c => ind (S c)) n ≤ sm (fun c => ind (T c)) m
  | 0, S, T, _, _ => (sm_ind T m).1
  | n + 1, S, T, h1, h2 => by
    show sm (fun c => ind (S c)) n + ind (S n) ≤ _
    by_cases e : S n
    · obtain ⟨u, u1, u2, u3⟩ := h1 n (by omega) e
      have := cn_rel (m := m) (R := R) (n := n) (S := S) (T := fun x => T x ∧ x ≠ u) (fun c hc hS => by
        obtain ⟨v, v1, v2, v3⟩ := h1 c (by omega) hS
        refine ⟨v, v1, ⟨v2, fun z => ?_⟩, v3⟩
        rw [z] at v3
        have := h2 c n u (by omega) (by omega) hS e v3 u3
        omega) (fun c d u hc hd => h2 c d u (by omega) (by omega))
      rw [cn_rem u1 u2, ind_t e]
      omega
    · rw [ind_f e]
      have := cn_rel (m := m) (R := R) (n := n) (S := S) (T := T) (fun c hc => h1 c (by omega)) (fun c d u hc hd => h2 c d u (by omega) (by omega))
      omega
theorem mny_ind (A : dA) (p : Int) : mnyA A p 512 = sm (fun c => ind (aC A c = p)) 512 := by
  unfold mnyA
  refine sm_cg fun k _ => ?_
  by_cases e : aC A k = p
  · rw [if_pos e, ind_t e]
  · rw [if_neg e, ind_f e]
