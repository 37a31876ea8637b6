/-! the class: how many cells, and where -/
theorem sm_add (f : Nat → Int) (a : Nat) : ∀ b, sm f (a + b) = sm f a + sm (fun i => f (a + i)) b
  | 0 => by show sm f a = sm f a + 0; omega
  | b + 1 => by
    show sm f (a + b) + f (a + b) = sm f a + (sm (fun i => f (a + i)) b + f (a + b))
    rw [sm_add f a b]; omega
theorem sm_ct (p : Nat → Bool) : ∀ n, sm (fun i => if p i = true then 1 else 0) n = (fb_ct p n : Int)
  | 0 => rfl
  | n + 1 => by
    show sm (fun i => if p i = true then 1 else 0) n + (if p n = true then 1 else 0) = _
    rw [sm_ct p n, fb_ct_succ]
    by_cases h : p n = true
    · rw [if_pos h, if_pos h]; omega
    · rw [if_neg h, if_neg h]; omega
theorem sm_plus (f g : Nat → Int) : ∀ n, sm (fun i => f i + g i) n = sm f n + sm g n
  | 0 => rfl
  | n + 1 => by
    show sm (fun i => f i + g i) n + (f n + g n) = (sm f n + f n) + (sm g n + g n)
    rw [sm_plus f g n]; omega
theorem sm_z : ∀ n, sm (fun _ => 0) n = 0
  | 0 => rfl
  | n + 1 => by show sm (fun _ => 0) n + 0 = 0; rw [sm_z n]; rfl
theorem sm_hit (Q : Prop) [Decidable Q] (a : Nat) : ∀ m, sm (fun c => (if Q ∧ a = c then 1 else 0) * (2 * (c : Int) + 1)) m = if Q ∧ a < m then 2 * (a : Int) + 1 else 0
  | 0 => by rw [if_neg (by omega)]; rfl
  | m + 1 => by
    show sm (fun c => (if Q ∧ a = c then 1 else 0) * (2 * (c : Int) + 1)) m + (if Q ∧ a = m then 1 else 0) * (2 * (m : Int) + 1) = _
    rw [sm_hit Q a m]
    by_cases q : Q
    · by_cases e : a = m
      · rw [if_neg (fun z => by omega), if_pos ⟨q, e⟩, if_pos ⟨q, by omega⟩, e]; omega
      · rw [if_neg (c := Q ∧ a = m) (fun z => e z.2)]
        by_cases e2 : a < m
        · rw [if_pos ⟨q, e2⟩, if_pos ⟨q, by omega⟩]; omega
        · rw [if_neg (fun z => e2 z.2), if_neg (fun z => by omega)]; omega
    · rw [if_neg (fun z => q z.1), if_neg (fun z => q z.1), if_neg (fun z => q z.1)]; omega
theorem dbl_sum (p : Nat → Bool) (g : Nat → Nat) : ∀ n, (∀ x, x < n → g x < 8) → sm (fun c => sm (fun x => if p x = true ∧ g x = c then 1 else 0) n * (2 * (c : Int) + 1)) 8 = sm (fun x => if p x = true then 2 * (g x : Int) + 1 else 0) n
  | 0, _ => by
    have : (fun c : Nat => sm (fun x => if p x = true ∧ g x = c then 1 else 0) 0 * (2 * (c : Int) + 1)) = fun _ => 0 := funext fun c => by show (0 : Int) * _ = 0; rw [Int.zero_mul]
    rw [this]; exact sm_z 8
  | n + 1, h => by
    have e : (fun c : Nat => sm (fun x => if p x = true ∧ g x = c then 1 else 0) (n + 1) * (2 * (c : Int) + 1)) = fun c : Nat => sm (fun x => if p x = true ∧ g x = c then 1 else 0) n * (2 * (c : Int) + 1) + (if p n = true ∧ g n = c then 1 else 0) * (2 * (c : Int) + 1) := funext fun c => by
      show (sm (fun x => if p x = true ∧ g x = c then 1 else 0) n + (if p n = true ∧ g n = c then 1 else 0)) * (2 * (c : Int) + 1) = _
      rw [Int.add_mul]
    rw [e, sm_plus, dbl_sum p g n (fun x hx => h x (by omega)), sm_hit]
    show _ = sm (fun x => if p x = true then 2 * (g x : Int) + 1 else 0) n + (if p n = true then 2 * (g n : Int) + 1 else 0)
    have := h n (by omega)
    by_cases q : p n = true
    · rw [if_pos ⟨q, this⟩, if_pos q]
    · rw [if_neg (fun z => q z.1), if_neg q]
theorem x_count {M : xM} {k : Nat} : fX6_count [.inr (.inr (6, k))] M = some (some (.inl (iZ (sm (fun c => if sB M k c = true then 1 else 0) 512))), M) := by
  have lp := xfor_F (sg := gX6_count) (fun z => (4, [some (.inr (.inr (6, k))), some (.inl (iZ ((sm (fun c => if sB M k c = true then 1 else 0) (64 * z))))), some (.inl (iZ (z)))], [], M)) (a := 0) (n := 8) (by omega) (fun z _ hz => by
    have hb := x_bitCountL (M := M) (v := xL M (44, k) z)
    have e : sm (fun c => if sB M k c = true then 1 else 0) (64 * (z + 1)) = sm (fun c => if sB M k c = true then 1 else 0) (64 * z) + (fb_ct (fun i => lB (xL M (44, k) z) i) 64 : Int) := by
      rw [show 64 * (z + 1) = 64 * z + 64 by omega, sm_add, ← sm_ct]
      congr 1
      refine sm_cg fun i hi => ?_
      unfold sB
      rw [show (64 * z + i) / 64 = z by omega, show (64 * z + i) % 64 = i by omega]
    rw [e, nS]
    generalize sm (fun c => if sB M k c = true then 1 else 0) (64 * z) = u at *
    generalize fb_ct (fun i => lB (xL M (44, k) z) i) 64 = w at *
    rw [xfix_unf, sX6_count_4]
    simp (disch := omega) only [xk_none, xk_inl, xk_inr, xk_ite, xri_v, xrl_v, xrv_v, xb_z0, xb_z1, xb_b2, if_true, if_false, ite_true, ite_false, iZ_lit, iZ_m1, iZ_m99, iZ_m8, iZ_add, iZ_sub, iZ_mul, iZ_neg, nz0, nzi, iZ_lt, iZ_le, iZ_inj, b2_z, b2_o, ite_bPz, ite_bPo, xb_bP, iZ_xin, if_pos, ite_self, ↓reduceIte, Int.reduceAdd, Int.reduceSub, Int.reduceMul, Int.reduceNeg, Int.reduceLT, Int.reduceLE, if_neg, iZ_clampN, hb])
  have z0 : ((0 : Nat) : Int) = 0 := rfl
  have e8 : ((8 : Nat) : Int) = 8 := rfl
  have s0 : sm (fun c => if sB M k c = true then (1 : Int) else 0) (64 * 0) = 0 := rfl
  rw [s0, z0, e8, show 64 * 8 = 512 from rfl] at lp
  show xfix gX6_count (0, [some (.inr (.inr (6, k))), none, none], [], M) = _; rw [xfix_unf, sX6_count_0]
  simp (disch := omega) only [xk_none, xk_inl, xk_inr, xk_ite, xri_v, xrl_v, xrv_v, xb_z0, xb_z1, xb_b2, if_true, if_false, ite_true, ite_false, iZ_lit, iZ_m1, iZ_m99, iZ_m8, iZ_add, iZ_sub, iZ_mul, iZ_neg, nz0, nzi, iZ_lt, iZ_le, iZ_inj, b2_z, b2_o, ite_bPz, ite_bPo, xb_bP, iZ_xin, if_pos, ite_self, ↓reduceIte, Int.reduceAdd, Int.reduceSub, Int.reduceMul, Int.reduceNeg, Int.reduceLT, Int.reduceLE, if_neg]
  refine lp.trans ?_
  rw [xfix_unf, sX6_count_4]
  simp (disch := omega) only [xk_none, xk_inl, xk_inr, xk_ite, xri_v, xrl_v, xrv_v, xb_z0, xb_z1, xb_b2, if_true, if_false, ite_true, ite_false, iZ_lit, iZ_m1, iZ_m99, iZ_m8, iZ_add, iZ_sub, iZ_mul, iZ_neg, nz0, nzi, iZ_lt, iZ_le, iZ_inj, b2_z, b2_o, ite_bPz, ite_bPo, xb_bP, iZ_xin, if_pos, ite_self, ↓reduceIte, Int.reduceAdd, Int.reduceSub, Int.reduceMul, Int.reduceNeg, Int.reduceLT, Int.reduceLE, if_neg]
theorem alg_64 {z i a : Nat} (ha : a < 2) (hi : i < 64) : alg (64 * z + i) a = alg i a := by
  unfold alg
  by_cases e : a = 0
  · rw [if_pos e, if_pos e]; omega
  · rw [if_neg e, if_neg e, if_pos (by omega), if_pos (by omega)]; omega
theorem x_doubledSum {M : xM} {k a : Nat} (ha : a < 2) : fX6_doubledSum [.inr (.inr (6, k)), .inl (iZ (a))] M = some (some (.inl (iZ (sm (fun c => if sB M k c = true then 2 * (alg c a : Int) + 1 else 0) 512))), M) := by
  have inn : ∀ (c : Nat) (u : Int), c < 8 → xfix gX6_doubledSum (38, [some (.inr (.inr (6, k))), some (.inl (iZ (a))), some (.inl (iZ (u))), some (.inl (iZ (c))), some (.inr (.inl ((strp a c)))), none, some (.inl (iZ ((0 : Int)))), some (.inl (iZ (((0 : Nat)))))], [], M) = xfix gX6_doubledSum (38, [some (.inr (.inr (6, k))), some (.inl (iZ (a))), some (.inl (iZ (u))), some (.inl (iZ (c))), some (.inr (.inl ((strp a c)))), none, some (.inl (iZ ((sm (fun x => if sB M k x = true ∧ alg x a = c then 1 else 0) 512)))), some (.inl (iZ (((8 : Nat)))))], [], M) := fun c u hc => by
    have lp := xfor_F (sg := gX6_doubledSum) (fun z => (38, [some (.inr (.inr (6, k))), some (.inl (iZ (a))), some (.inl (iZ (u))), some (.inl (iZ (c))), some (.inr (.inl ((strp a c)))), none, some (.inl (iZ ((sm (fun x => if sB M k x = true ∧ alg x a = c then 1 else 0) (64 * z))))), some (.inl (iZ (z)))], [], M)) (a := 0) (n := 8) (by omega) (fun z _ hz => by
      have hb := x_bitCountL (M := M) (v := xL M (44, k) z &&& strp a c)
      have e : sm (fun x => if sB M k x = true ∧ alg x a = c then 1 else 0) (64 * (z + 1)) = sm (fun x => if sB M k x = true ∧ alg x a = c then 1 else 0) (64 * z) + (fb_ct (fun i => lB (xL M (44, k) z &&& strp a c) i) 64 : Int) := by
        rw [show 64 * (z + 1) = 64 * z + 64 by omega, sm_add, ← sm_ct]
        congr 1
        refine sm_cg fun i hi => ?_
        rw [lB_and, strp_b ha hc hi, alg_64 ha hi]
        unfold sB
        rw [show (64 * z + i) / 64 = z by omega, show (64 * z + i) % 64 = i by omega]
        by_cases q : lB (xL M (44, k) z) i = true
        · by_cases r : alg i a = c
          · rw [if_pos ⟨q, r⟩, if_pos (by rw [q, decide_eq_true r]; rfl)]
          · rw [if_neg (fun y => r y.2), if_neg (by rw [decide_eq_false r, Bool.and_false]; simp)]
        · rw [if_neg (fun y => q y.1), if_neg (fun y => q (by rw [Bool.and_eq_true] at y; exact y.1))]
      rw [e, nS]
      generalize sm (fun x => if sB M k x = true ∧ alg x a = c then 1 else 0) (64 * z) = y at *
      generalize fb_ct (fun i => lB (xL M (44, k) z &&& strp a c) i) 64 = w at *
      generalize strp a c = sp at *
      rw [xfix_unf, sX6_doubledSum_38]
      simp (disch := omega) only [xk_none, xk_inl, xk_inr, xk_ite, xri_v, xrl_v, xrv_v, xb_z0, xb_z1, xb_b2, if_true, if_false, ite_true, ite_false, iZ_lit, iZ_m1, iZ_m99, iZ_m8, iZ_add, iZ_sub, iZ_mul, iZ_neg, nz0, nzi, iZ_lt, iZ_le, iZ_inj, b2_z, b2_o, ite_bPz, ite_bPo, xb_bP, iZ_xin, if_pos, ite_self, ↓reduceIte, Int.reduceAdd, Int.reduceSub, Int.reduceMul, Int.reduceNeg, Int.reduceLT, Int.reduceLE, if_neg, iZ_clampN, hb])
    exact lp
  have lp := xfor_F (sg := gX6_doubledSum) (fun c => (4, [some (.inr (.inr (6, k))), some (.inl (iZ (a))), some (.inl (iZ ((sm (fun c => sm (fun x => if sB M k x = true ∧ alg x a = c then 1 else 0) 512 * (2 * (c : Int) + 1)) c)))), some (.inl (iZ (c))), none, none, none, none], [], M)) (a := 0) (n := 8) (by omega) (fun c _ hc => by
    have e : sm (fun c => sm (fun x => if sB M k x = true ∧ alg x a = c then 1 else 0) 512 * (2 * (c : Int) + 1)) (c + 1) = sm (fun c => sm (fun x => if sB M k x = true ∧ alg x a = c then 1 else 0) 512 * (2 * (c : Int) + 1)) c + sm (fun x => if sB M k x = true ∧ alg x a = c then 1 else 0) 512 * (2 * (c : Int) + 1) := rfl
    rw [e, nS]
    have h1 := inn c (sm (fun c => sm (fun x => if sB M k x = true ∧ alg x a = c then 1 else 0) 512 * (2 * (c : Int) + 1)) c) hc
    generalize sm (fun c => sm (fun x => if sB M k x = true ∧ alg x a = c then 1 else 0) 512 * (2 * (c : Int) + 1)) c = u at *
    generalize sm (fun x => if sB M k x = true ∧ alg x a = c then 1 else 0) 512 = v at *
    have e8 : (8 : Int) * (c : Int) = ((8 * c : Nat) : Int) := by omega
    have t1 : xfix gX6_doubledSum (4, [some (.inr (.inr (6, k))), some (.inl (iZ (a))), some (.inl (iZ (u))), some (.inl (iZ (c))), none, none, none, none], [], M) = xfix gX6_doubledSum (38, [some (.inr (.inr (6, k))), some (.inl (iZ (a))), some (.inl (iZ (u))), some (.inl (iZ (c))), some (.inr (.inl ((strp a c)))), none, some (.inl (iZ ((0 : Int)))), some (.inl (iZ (((0 : Nat)))))], [], M) := by
      have z0 : ((0 : Nat) : Int) = 0 := rfl
      rw [z0]
      unfold strp
      by_cases q : a = 0
      · rw [if_pos q]
        subst q
        rw [xfix_unf, sX6_doubledSum_4]
        simp (disch := omega) only [xk_none, xk_inl, xk_inr, xk_ite, xri_v, xrl_v, xrv_v, xb_z0, xb_z1, xb_b2, if_true, if_false, ite_true, ite_false, iZ_lit, iZ_m1, iZ_m99, iZ_m8, iZ_add, iZ_sub, iZ_mul, iZ_neg, nz0, nzi, iZ_lt, iZ_le, iZ_inj, b2_z, b2_o, ite_bPz, ite_bPo, xb_bP, iZ_xin, if_pos, ite_self, ↓reduceIte, Int.reduceAdd, Int.reduceSub, Int.reduceMul, Int.reduceNeg, Int.reduceLT, Int.reduceLE, if_neg, z0]
      · rw [if_neg q]
        rw [xfix_unf, sX6_doubledSum_4]
        simp (disch := omega) only [xk_none, xk_inl, xk_inr, xk_ite, xri_v, xrl_v, xrv_v, xb_z0, xb_z1, xb_b2, if_true, if_false, ite_true, ite_false, iZ_lit, iZ_m1, iZ_m99, iZ_m8, iZ_add, iZ_sub, iZ_mul, iZ_neg, nz0, nzi, iZ_lt, iZ_le, iZ_inj, b2_z, b2_o, ite_bPz, ite_bPo, xb_bP, iZ_xin, if_pos, ite_self, ↓reduceIte, Int.reduceAdd, Int.reduceSub, Int.reduceMul, Int.reduceNeg, Int.reduceLT, Int.reduceLE, if_neg, e8]
    refine t1.trans (h1.trans ?_)
    have e8' : ((8 : Nat) : Int) = 8 := rfl
    generalize strp a c = sp at *
    rw [xfix_unf, sX6_doubledSum_38]
    simp (disch := omega) only [xk_none, xk_inl, xk_inr, xk_ite, xri_v, xrl_v, xrv_v, xb_z0, xb_z1, xb_b2, if_true, if_false, ite_true, ite_false, iZ_lit, iZ_m1, iZ_m99, iZ_m8, iZ_add, iZ_sub, iZ_mul, iZ_neg, nz0, nzi, iZ_lt, iZ_le, iZ_inj, b2_z, b2_o, ite_bPz, ite_bPo, xb_bP, iZ_xin, if_pos, ite_self, ↓reduceIte, Int.reduceAdd, Int.reduceSub, Int.reduceMul, Int.reduceNeg, Int.reduceLT, Int.reduceLE, if_neg, e8'])
  rw [← dbl_sum (sB M k) (fun x => alg x a) 512 (fun x hx => alg_lt hx a)]
  have z0 : ((0 : Nat) : Int) = 0 := rfl
  have e8 : ((8 : Nat) : Int) = 8 := rfl
  have s0 : sm (fun c => sm (fun x => if sB M k x = true ∧ alg x a = c then (1 : Int) else 0) 512 * (2 * (c : Int) + 1)) 0 = 0 := rfl
  rw [s0, z0, e8] at lp
  show xfix gX6_doubledSum (0, [some (.inr (.inr (6, k))), some (.inl (iZ (a))), none, none, none, none, none, none], [], M) = _; rw [xfix_unf, sX6_doubledSum_0]
  simp (disch := omega) only [xk_none, xk_inl, xk_inr, xk_ite, xri_v, xrl_v, xrv_v, xb_z0, xb_z1, xb_b2, if_true, if_false, ite_true, ite_false, iZ_lit, iZ_m1, iZ_m99, iZ_m8, iZ_add, iZ_sub, iZ_mul, iZ_neg, nz0, nzi, iZ_lt, iZ_le, iZ_inj, b2_z, b2_o, ite_bPz, ite_bPo, xb_bP, iZ_xin, if_pos, ite_self, ↓reduceIte, Int.reduceAdd, Int.reduceSub, Int.reduceMul, Int.reduceNeg, Int.reduceLT, Int.reduceLE, if_neg]
  refine lp.trans ?_
  rw [xfix_unf, sX6_doubledSum_4]
  simp (disch := omega) only [xk_none, xk_inl, xk_inr, xk_ite, xri_v, xrl_v, xrv_v, xb_z0, xb_z1, xb_b2, if_true, if_false, ite_true, ite_false, iZ_lit, iZ_m1, iZ_m99, iZ_m8, iZ_add, iZ_sub, iZ_mul, iZ_neg, nz0, nzi, iZ_lt, iZ_le, iZ_inj, b2_z, b2_o, ite_bPz, ite_bPo, xb_bP, iZ_xin, if_pos, ite_self, ↓reduceIte, Int.reduceAdd, Int.reduceSub, Int.reduceMul, Int.reduceNeg, Int.reduceLT, Int.reduceLE, if_neg]
