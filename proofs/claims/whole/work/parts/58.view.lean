/-! the reference: views -/
def lnc (w u v k : Nat) : Nat := if w / 2 = 0 then 64 * v + 8 * u + (if w % 2 = 0 then 7 - k else k) else if w / 2 = 1 then 64 * v + 8 * (if w % 2 = 0 then 7 - k else k) + u else 64 * (if w % 2 = 0 then 7 - k else k) + 8 * v + u
theorem lnc_lt {w u v k : Nat} (hu : u < 8) (hv : v < 8) (hk : k < 8) : lnc w u v k < 512 := by unfold lnc; (repeat' split) <;> omega
theorem aat_n {A : dA} {x y z : Nat} (hx : x < 8) (hy : y < 8) (hz : z < 8) : aat A (x : Int) y z = aC A (64 * z + 8 * y + x) := by
  unfold aat
  rw [if_pos (by omega)]
  congr 1
/-- the first cell of a heap that is met on a line -/
noncomputable def mtK (A : dA) (heap w u v : Nat) : Nat := lst (fun k => inH A heap (lnc w u v k)) 8
noncomputable def mtA (A : dA) (heap w u v : Nat) : Int := if mtK A heap w u v < 8 then aC A (lnc w u v (mtK A heap w u v)) else -1
theorem m_met {A : dA} {M : xM} (h : mA M A) {heap w u v : Nat} (hh : heap < 512) (hw : w < 6) (hu : u < 8) (hv : v < 8) : fX12_met [.inr (.inr (12, 0)), .inl (iZ (heap)), .inl (iZ (w)), .inl (iZ (u)), .inl (iZ (v))] M = some (some (.inl (iZ (mtA A heap w u v))), M) := by
  have hP := h.ok.P
  have step : ∀ k : Nat, k < 8 → xfix gX12_met (3, [some (.inr (.inr (12, 0))), some (.inl (iZ (heap))), some (.inl (iZ (w))), some (.inl (iZ (u))), some (.inl (iZ (v))), some (.inl (iZ (k))), none, none], [], M) = xfix gX12_met (82, [some (.inr (.inr (12, 0))), some (.inl (iZ (heap))), some (.inl (iZ (w))), some (.inl (iZ (u))), some (.inl (iZ (v))), some (.inl (iZ (k))), none, none], [.inl (iZ ((aC A (lnc w u v k))))], M) := fun k hk => by
    have e7 : (7 : Int) - k = ((7 - k : Nat) : Int) := by omega
    have key : ∀ d : Nat, d < 8 → (d = if w % 2 = 0 then 7 - k else k) → xfix gX12_met (37, [some (.inr (.inr (12, 0))), some (.inl (iZ (heap))), some (.inl (iZ (w))), some (.inl (iZ (u))), some (.inl (iZ (v))), some (.inl (iZ (k))), none, none], [.inl (iZ (d))], M) = xfix gX12_met (82, [some (.inr (.inr (12, 0))), some (.inl (iZ (heap))), some (.inl (iZ (w))), some (.inl (iZ (u))), some (.inl (iZ (v))), some (.inl (iZ (k))), none, none], [.inl (iZ ((aC A (lnc w u v k))))], M) := fun d hd ed => by
      have q1 := m_at (A := A) (d : Int) (u : Int) (v : Int) M h (by omega) (by omega) (by omega)
      have q2 := m_at (A := A) (u : Int) (d : Int) (v : Int) M h (by omega) (by omega) (by omega)
      have q3 := m_at (A := A) (u : Int) (v : Int) (d : Int) M h (by omega) (by omega) (by omega)
      rw [aat_n hd hu hv] at q1
      rw [aat_n hu hd hv] at q2
      rw [aat_n hu hv hd] at q3
      unfold lnc
      rw [← ed]
      rw [xfix_unf, sX12_met_37]
      simp (disch := omega) only [xk_none, xk_inl, xk_inr, xk_ite, xri_v, xrl_v, xrv_v, xb_z0, xb_z1, xb_b2, if_true, if_false, ite_true, ite_false, iZ_lit, iZ_m1, iZ_m99, iZ_m8, iZ_add, iZ_sub, iZ_mul, iZ_neg, nz0, nzi, iZ_lt, iZ_le, iZ_inj, b2_z, b2_o, ite_bPz, ite_bPo, xb_bP, iZ_xin, if_pos, ite_self, ↓reduceIte, Int.reduceAdd, Int.reduceSub, Int.reduceMul, Int.reduceNeg, Int.reduceLT, Int.reduceLE, if_neg, nS, iZ_clampN, iZ_bit, iZ_one, iZ_and, iZ_or, iZ_ndn, q1, q2, q3]
      rcases w6 hw with e | e | e | e | e | e <;> subst e <;> rfl
    rw [xfix_unf, sX12_met_3]
    simp (disch := omega) only [xk_none, xk_inl, xk_inr, xk_ite, xri_v, xrl_v, xrv_v, xb_z0, xb_z1, xb_b2, if_true, if_false, ite_true, ite_false, iZ_lit, iZ_m1, iZ_m99, iZ_m8, iZ_add, iZ_sub, iZ_mul, iZ_neg, nz0, nzi, iZ_lt, iZ_le, iZ_inj, b2_z, b2_o, ite_bPz, ite_bPo, xb_bP, iZ_xin, if_pos, ite_self, ↓reduceIte, Int.reduceAdd, Int.reduceSub, Int.reduceMul, Int.reduceNeg, Int.reduceLT, Int.reduceLE, if_neg, nS, iZ_clampN, iZ_bit, iZ_one, iZ_and, iZ_or, iZ_ndn, m_stepX M hw, m_stepY M hw, m_stepZ M hw]
    rcases w6 hw with e | e | e | e | e | e <;> subst e
    · rw [← key (7 - k) (by omega) rfl, ← e7]; rfl
    · rw [← key k (by omega) rfl]; rfl
    · rw [← key (7 - k) (by omega) rfl, ← e7]; rfl
    · rw [← key k (by omega) rfl]; rfl
    · rw [← key (7 - k) (by omega) rfl, ← e7]; rfl
    · rw [← key k (by omega) rfl]; rfl
  have hl := xfor_F (sg := gX12_met) (fun k => (3, [some (.inr (.inr (12, 0))), some (.inl (iZ (heap))), some (.inl (iZ (w))), some (.inl (iZ (u))), some (.inl (iZ (v))), some (.inl (iZ (k))), none, none], [], M)) (a := 0) (n := mtK A heap w u v) (by omega) (fun k _ hk => by
    have hk8 : k < 8 := by have : mtK A heap w u v ≤ 8 := lst_le _ 8
                           omega
    have hno : ¬ inH A heap (lnc w u v k) := lst_no _ 8 k hk
    have hc := h.ok.C (lnc_lt (w := w) hu hv hk8)
    rw [step k hk8]
    rw [xfix_unf, sX12_met_82]
    by_cases e : aC A (lnc w u v k) = -1
    · simp (disch := omega) only [xk_none, xk_inl, xk_inr, xk_ite, xri_v, xrl_v, xrv_v, xb_z0, xb_z1, xb_b2, if_true, if_false, ite_true, ite_false, iZ_lit, iZ_m1, iZ_m99, iZ_m8, iZ_add, iZ_sub, iZ_mul, iZ_neg, nz0, nzi, iZ_lt, iZ_le, iZ_inj, b2_z, b2_o, ite_bPz, ite_bPo, xb_bP, iZ_xin, if_pos, ite_self, ↓reduceIte, Int.reduceAdd, Int.reduceSub, Int.reduceMul, Int.reduceNeg, Int.reduceLT, Int.reduceLE, if_neg, nS, iZ_clampN, iZ_bit, iZ_one, iZ_and, iZ_or, iZ_ndn, e]
    · obtain ⟨p, hp⟩ : ∃ p : Nat, aC A (lnc w u v k) = p := ⟨(aC A (lnc w u v k)).toNat, by omega⟩
      rw [hp]
      simp (disch := omega) only [xk_none, xk_inl, xk_inr, xk_ite, xri_v, xrl_v, xrv_v, xb_z0, xb_z1, xb_b2, if_true, if_false, ite_true, ite_false, iZ_lit, iZ_m1, iZ_m99, iZ_m8, iZ_add, iZ_sub, iZ_mul, iZ_neg, nz0, nzi, iZ_lt, iZ_le, iZ_inj, b2_z, b2_o, ite_bPz, ite_bPo, xb_bP, iZ_xin, if_pos, ite_self, ↓reduceIte, Int.reduceAdd, Int.reduceSub, Int.reduceMul, Int.reduceNeg, Int.reduceLT, Int.reduceLE, if_neg, nS, iZ_clampN, iZ_bit, iZ_one, iZ_and, iZ_or, iZ_ndn, if_neg (fun z => hno ((inH_iff hp).mpr z))])
  have hle : mtK A heap w u v ≤ 8 := lst_le _ 8
  show xfix gX12_met (0, [some (.inr (.inr (12, 0))), some (.inl (iZ (heap))), some (.inl (iZ (w))), some (.inl (iZ (u))), some (.inl (iZ (v))), none, none, none], [], M) = _; rw [xfix_unf, sX12_met_0]
  simp (disch := omega) only [xk_none, xk_inl, xk_inr, xk_ite, xri_v, xrl_v, xrv_v, xb_z0, xb_z1, xb_b2, if_true, if_false, ite_true, ite_false, iZ_lit, iZ_m1, iZ_m99, iZ_m8, iZ_add, iZ_sub, iZ_mul, iZ_neg, nz0, nzi, iZ_lt, iZ_le, iZ_inj, b2_z, b2_o, ite_bPz, ite_bPo, xb_bP, iZ_xin, if_pos, ite_self, ↓reduceIte, Int.reduceAdd, Int.reduceSub, Int.reduceMul, Int.reduceNeg, Int.reduceLT, Int.reduceLE, if_neg]
  refine hl.trans ?_
  unfold mtA
  by_cases e : mtK A heap w u v < 8
  · rw [if_pos e, step _ e]
    obtain ⟨p, hp, hb⟩ := lst_is (fun k => inH A heap (lnc w u v k)) 8 e
    have hp' : aC A (lnc w u v (mtK A heap w u v)) = p := hp
    have hc := h.ok.C (lnc_lt (w := w) hu hv e)
    rw [hp']
    rw [xfix_unf, sX12_met_82]
    simp (disch := omega) only [xk_none, xk_inl, xk_inr, xk_ite, xri_v, xrl_v, xrv_v, xb_z0, xb_z1, xb_b2, if_true, if_false, ite_true, ite_false, iZ_lit, iZ_m1, iZ_m99, iZ_m8, iZ_add, iZ_sub, iZ_mul, iZ_neg, nz0, nzi, iZ_lt, iZ_le, iZ_inj, b2_z, b2_o, ite_bPz, ite_bPo, xb_bP, iZ_xin, if_pos, ite_self, ↓reduceIte, Int.reduceAdd, Int.reduceSub, Int.reduceMul, Int.reduceNeg, Int.reduceLT, Int.reduceLE, if_neg, nS, iZ_clampN, iZ_bit, iZ_one, iZ_and, iZ_or, iZ_ndn, if_pos hb]
  · rw [if_neg e]
    rw [xfix_unf, sX12_met_3]
    simp (disch := omega) only [xk_none, xk_inl, xk_inr, xk_ite, xri_v, xrl_v, xrv_v, xb_z0, xb_z1, xb_b2, if_true, if_false, ite_true, ite_false, iZ_lit, iZ_m1, iZ_m99, iZ_m8, iZ_add, iZ_sub, iZ_mul, iZ_neg, nz0, nzi, iZ_lt, iZ_le, iZ_inj, b2_z, b2_o, ite_bPz, ite_bPo, xb_bP, iZ_xin, if_pos, ite_self, ↓reduceIte, Int.reduceAdd, Int.reduceSub, Int.reduceMul, Int.reduceNeg, Int.reduceLT, Int.reduceLE, if_neg]
/-- of a line the half is seen first -/
def snP (A : dA) (heap half w u v : Nat) : Prop := ∃ k, k < 8 ∧ inH A half (lnc w u v k) ∧ ∀ j, j < k → ¬ inH A heap (lnc w u v j)
noncomputable def snA (A : dA) (heap half w : Nat) : Int := sm (fun l => ind (snP A heap half w (l % 8) (l / 8))) 64
theorem snA_b (A : dA) (heap half w : Nat) : 0 ≤ snA A heap half w ∧ snA A heap half w ≤ 64 := sm_ind _ 64
theorem sm_88 (f : Nat → Nat → Int) : sm (fun u => sm (fun v => f u v) 8) 8 = sm (fun l => f (l % 8) (l / 8)) 64 := by
  simp only [sm, Nat.reduceMod, Nat.reduceDiv]
  omega
theorem seen_bit {A : dA} {heap half w u v : Nat} (hs : half &&& heap = half) : (mtK A heap w u v < 8 ∧ inH A half (lnc w u v (mtK A heap w u v))) ↔ snP A heap half w u v := by
  constructor
  · rintro ⟨h1, h2⟩
    exact ⟨_, h1, h2, fun j hj => lst_no (fun k => inH A heap (lnc w u v k)) 8 j hj⟩
  · rintro ⟨k, h1, h2, h3⟩
    have hk : inH A heap (lnc w u v k) := by
      obtain ⟨p, p1, p2⟩ := h2
      exact ⟨p, p1, ndn_z.mp (ndn_and.mpr hs) p p2⟩
    have e : mtK A heap w u v = k := lst_eq (by omega) h3 (fun _ => hk)
    rw [e]; exact ⟨h1, h2⟩
theorem m_seen {A : dA} {M : xM} (h : mA M A) {heap half w : Nat} (hh : heap < 512) (hs : half &&& heap = half) (hw : w < 6) : fX12_seen [.inr (.inr (12, 0)), .inl (iZ (heap)), .inl (iZ (half)), .inl (iZ (w))] M = some (some (.inl (iZ (snA A heap half w))), M) := by
  have hP := h.ok.P
  have hf := and_lt hs hh
  have row : ∀ (u : Nat), u < 8 → ∀ n : Int, 0 ≤ n ∧ n ≤ 64 → xfix gX12_seen (16, [some (.inr (.inr (12, 0))), some (.inl (iZ (heap))), some (.inl (iZ (half))), some (.inl (iZ (w))), some (.inl (iZ (n))), some (.inl (iZ (u))), some (.inl (iZ ((0 : Nat)))), none], [], M) = xfix gX12_seen (6, [some (.inr (.inr (12, 0))), some (.inl (iZ (heap))), some (.inl (iZ (half))), some (.inl (iZ (w))), some (.inl (iZ ((n + sm (fun v => ind (snP A heap half w u v)) 8)))), some (.inl (iZ (((u : Int) + 1)))), none, none], [], M) := fun u hu n hn => by
    have hl := xfor_F (sg := gX12_seen) (fun v => (16, [some (.inr (.inr (12, 0))), some (.inl (iZ (heap))), some (.inl (iZ (half))), some (.inl (iZ (w))), some (.inl (iZ ((n + sm (fun v => ind (snP A heap half w u v)) v)))), some (.inl (iZ (u))), some (.inl (iZ (v))), none], [], M)) (a := 0) (n := 8) (by omega) (fun v _ hv => by
      rw [show sm (fun v => ind (snP A heap half w u v)) (v + 1) = sm (fun v => ind (snP A heap half w u v)) v + ind (snP A heap half w u v) from rfl]
      have hb := sm_ind (fun v => snP A heap half w u v) v
      have hm := m_met h hh hw hu hv
      rw [← seen_bit hs]
      unfold mtA at hm
      rw [xfix_unf, sX12_seen_16]
      by_cases e : mtK A heap w u v < 8
      · rw [if_pos e] at hm
        obtain ⟨p, hp, hb⟩ := lst_is (fun k => inH A heap (lnc w u v k)) 8 e
        have hp' : aC A (lnc w u v (mtK A heap w u v)) = p := hp
        have hc := h.ok.C (lnc_lt (w := w) hu hv e)
        rw [hp'] at hm hc
        simp (disch := omega) only [xk_none, xk_inl, xk_inr, xk_ite, xri_v, xrl_v, xrv_v, xb_z0, xb_z1, xb_b2, if_true, if_false, ite_true, ite_false, iZ_lit, iZ_m1, iZ_m99, iZ_m8, iZ_add, iZ_sub, iZ_mul, iZ_neg, nz0, nzi, iZ_lt, iZ_le, iZ_inj, b2_z, b2_o, ite_bPz, ite_bPo, xb_bP, iZ_xin, if_pos, ite_self, ↓reduceIte, Int.reduceAdd, Int.reduceSub, Int.reduceMul, Int.reduceNeg, Int.reduceLT, Int.reduceLE, if_neg, nS, iZ_clampN, iZ_bit, iZ_one, iZ_and, iZ_or, iZ_ndn, hm]
        by_cases e2 : half.testBit p = true
        · rw [if_pos e2, ind_t ⟨e, (inH_iff hp').mpr e2⟩, Int.add_assoc]
        · rw [if_neg e2, ind_f (fun z => e2 ((inH_iff hp').mp z.2)), Int.add_zero]
          simp
      · rw [if_neg e] at hm
        rw [ind_f (fun z => e z.1), Int.add_zero]
        simp (disch := omega) only [xk_none, xk_inl, xk_inr, xk_ite, xri_v, xrl_v, xrv_v, xb_z0, xb_z1, xb_b2, if_true, if_false, ite_true, ite_false, iZ_lit, iZ_m1, iZ_m99, iZ_m8, iZ_add, iZ_sub, iZ_mul, iZ_neg, nz0, nzi, iZ_lt, iZ_le, iZ_inj, b2_z, b2_o, ite_bPz, ite_bPo, xb_bP, iZ_xin, if_pos, ite_self, ↓reduceIte, Int.reduceAdd, Int.reduceSub, Int.reduceMul, Int.reduceNeg, Int.reduceLT, Int.reduceLE, if_neg, nS, iZ_clampN, iZ_bit, iZ_one, iZ_and, iZ_or, iZ_ndn, hm]
        simp)
    have e0 : n + sm (fun v => ind (snP A heap half w u v)) 0 = n := Int.add_zero n
    rw [e0] at hl
    refine hl.trans ?_
    rw [xfix_unf, sX12_seen_16]
    simp (disch := omega) only [xk_none, xk_inl, xk_inr, xk_ite, xri_v, xrl_v, xrv_v, xb_z0, xb_z1, xb_b2, if_true, if_false, ite_true, ite_false, iZ_lit, iZ_m1, iZ_m99, iZ_m8, iZ_add, iZ_sub, iZ_mul, iZ_neg, nz0, nzi, iZ_lt, iZ_le, iZ_inj, b2_z, b2_o, ite_bPz, ite_bPo, xb_bP, iZ_xin, if_pos, ite_self, ↓reduceIte, Int.reduceAdd, Int.reduceSub, Int.reduceMul, Int.reduceNeg, Int.reduceLT, Int.reduceLE, if_neg]
  have hl := xfor_F (sg := gX12_seen) (fun u => (6, [some (.inr (.inr (12, 0))), some (.inl (iZ (heap))), some (.inl (iZ (half))), some (.inl (iZ (w))), some (.inl (iZ ((sm (fun u => sm (fun v => ind (snP A heap half w u v)) 8) u)))), some (.inl (iZ (u))), none, none], [], M)) (a := 0) (n := 8) (by omega) (fun u _ hu => by
    have hb := sm_le (f := fun u => sm (fun v => ind (snP A heap half w u v)) 8) (b := 8) (n := u) (fun k _ => sm_ind (fun v => snP A heap half w k v) 8)
    refine Eq.trans ?_ (row u hu (sm (fun u => sm (fun v => ind (snP A heap half w u v)) 8) u) (by omega))
    rw [xfix_unf, sX12_seen_6]
    simp (disch := omega) only [xk_none, xk_inl, xk_inr, xk_ite, xri_v, xrl_v, xrv_v, xb_z0, xb_z1, xb_b2, if_true, if_false, ite_true, ite_false, iZ_lit, iZ_m1, iZ_m99, iZ_m8, iZ_add, iZ_sub, iZ_mul, iZ_neg, nz0, nzi, iZ_lt, iZ_le, iZ_inj, b2_z, b2_o, ite_bPz, ite_bPo, xb_bP, iZ_xin, if_pos, ite_self, ↓reduceIte, Int.reduceAdd, Int.reduceSub, Int.reduceMul, Int.reduceNeg, Int.reduceLT, Int.reduceLE, if_neg]
    rfl)
  show xfix gX12_seen (0, [some (.inr (.inr (12, 0))), some (.inl (iZ (heap))), some (.inl (iZ (half))), some (.inl (iZ (w))), none, none, none, none], [], M) = _; rw [xfix_unf, sX12_seen_0]
  simp (disch := omega) only [xk_none, xk_inl, xk_inr, xk_ite, xri_v, xrl_v, xrv_v, xb_z0, xb_z1, xb_b2, if_true, if_false, ite_true, ite_false, iZ_lit, iZ_m1, iZ_m99, iZ_m8, iZ_add, iZ_sub, iZ_mul, iZ_neg, nz0, nzi, iZ_lt, iZ_le, iZ_inj, b2_z, b2_o, ite_bPz, ite_bPo, xb_bP, iZ_xin, if_pos, ite_self, ↓reduceIte, Int.reduceAdd, Int.reduceSub, Int.reduceMul, Int.reduceNeg, Int.reduceLT, Int.reduceLE, if_neg]
  refine hl.trans ?_
  rw [sm_88]
  rw [xfix_unf, sX12_seen_6]
  simp (disch := omega) only [xk_none, xk_inl, xk_inr, xk_ite, xri_v, xrl_v, xrv_v, xb_z0, xb_z1, xb_b2, if_true, if_false, ite_true, ite_false, iZ_lit, iZ_m1, iZ_m99, iZ_m8, iZ_add, iZ_sub, iZ_mul, iZ_neg, nz0, nzi, iZ_lt, iZ_le, iZ_inj, b2_z, b2_o, ite_bPz, ite_bPo, xb_bP, iZ_xin, if_pos, ite_self, ↓reduceIte, Int.reduceAdd, Int.reduceSub, Int.reduceMul, Int.reduceNeg, Int.reduceLT, Int.reduceLE, if_neg]
  rfl
noncomputable def vwR (A : dA) (heap half : Nat) : Nat → Nat
  | 0 => 0
  | k + 1 => if snA A heap half (vwR A heap half k) < snA A heap half k then k else vwR A heap half k
theorem vwR_le (A : dA) (heap half : Nat) : ∀ k, vwR A heap half k ≤ k
  | 0 => Nat.le_refl _
  | k + 1 => by
    have := vwR_le A heap half k
    unfold vwR
    split <;> omega
noncomputable def sView (A : dA) (a b w : Int) : Int := vI (vF A a b ∧ 0 ≤ w ∧ w ≤ 6) (if w = 6 then (vwR A a.toNat b.toNat 6 : Int) else snA A a.toNat b.toNat w.toNat)
theorem q_view {A : dA} {M : xM} (h : mQ M A) {a b w : Int} (ha : r32 a) (hb : r32 b) (hw : r32 w) : qR M A (fX12_view [.inr (.inr (12, 0)), .inl (iZ (a)), .inl (iZ (b)), .inl (iZ (w))] M) (.inl (iZ (sView A a b w))) := by
  have hP := pow9 h.A.ok.P
  unfold sView
  by_cases e1 : vF A a b
  · by_cases e2 : 0 ≤ w ∧ w ≤ 6
    · refine qR.of h ?_
      rw [vI_t ⟨e1, e2⟩]
      have e1' := e1
      obtain ⟨a, b, rfl, rfl, x1, x2, x3, x4⟩ := e1'
      have hs := ndn_and.mp x4
      have ena : ((a : Int)).toNat = a := by omega
      have enb : ((b : Int)).toNat = b := by omega
      rw [ena, enb]
      by_cases e3 : w = 6
      · rw [if_pos e3]
        have hl := xfor_F (sg := gX12_view) (fun k => (41, [some (.inr (.inr (12, 0))), some (.inl (iZ (a))), some (.inl (iZ (b))), none, some (.inl (iZ ((vwR A a b k)))), some (.inl (iZ (k)))], [], M)) (a := 1) (n := 6) (by omega) (fun k _ hk => by
          have hv := vwR_le A a b k
          have b1 := snA_b A a b k
          have b2 := snA_b A a b (vwR A a b k)
          rw [show vwR A a b (k + 1) = if snA A a b (vwR A a b k) < snA A a b k then k else vwR A a b k from rfl]
          rw [xfix_unf, sX12_view_41]
          simp (disch := omega) only [xk_none, xk_inl, xk_inr, xk_ite, xri_v, xrl_v, xrv_v, xb_z0, xb_z1, xb_b2, if_true, if_false, ite_true, ite_false, iZ_lit, iZ_m1, iZ_m99, iZ_m8, iZ_add, iZ_sub, iZ_mul, iZ_neg, nz0, nzi, iZ_lt, iZ_le, iZ_inj, b2_z, b2_o, ite_bPz, ite_bPo, xb_bP, iZ_xin, if_pos, ite_self, ↓reduceIte, Int.reduceAdd, Int.reduceSub, Int.reduceMul, Int.reduceNeg, Int.reduceLT, Int.reduceLE, if_neg, nS, iZ_clampN, iZ_bit, iZ_one, iZ_and, iZ_or, iZ_ndn, m_seen h.A (by omega : a < 512) hs hk, m_seen h.A (by omega : a < 512) hs (by omega : vwR A a b k < 6)]
          by_cases d : snA A a b (vwR A a b k) < snA A a b k
          · rw [if_pos d, if_neg (by omega)]
          · rw [if_neg d, if_pos (by omega)])
        have e0 : vwR A a b 1 = 0 := by unfold vwR; split <;> rfl
        rw [e0] at hl
        show xfix gX12_view (0, [some (.inr (.inr (12, 0))), some (.inl (iZ (a))), some (.inl (iZ (b))), some (.inl (iZ (w))), none, none], [], M) = _; rw [xfix_unf, sX12_view_0]
        simp (disch := omega) only [xk_none, xk_inl, xk_inr, xk_ite, xri_v, xrl_v, xrv_v, xb_z0, xb_z1, xb_b2, if_true, if_false, ite_true, ite_false, iZ_lit, iZ_m1, iZ_m99, iZ_m8, iZ_add, iZ_sub, iZ_mul, iZ_neg, nz0, nzi, iZ_lt, iZ_le, iZ_inj, b2_z, b2_o, ite_bPz, ite_bPo, xb_bP, iZ_xin, if_pos, ite_self, ↓reduceIte, Int.reduceAdd, Int.reduceSub, Int.reduceMul, Int.reduceNeg, Int.reduceLT, Int.reduceLE, if_neg, k_isHalf h.A ha hb, e1, k_isIn, e2, and_self]
        refine hl.trans ?_
        rw [xfix_unf, sX12_view_41]
        simp (disch := omega) only [xk_none, xk_inl, xk_inr, xk_ite, xri_v, xrl_v, xrv_v, xb_z0, xb_z1, xb_b2, if_true, if_false, ite_true, ite_false, iZ_lit, iZ_m1, iZ_m99, iZ_m8, iZ_add, iZ_sub, iZ_mul, iZ_neg, nz0, nzi, iZ_lt, iZ_le, iZ_inj, b2_z, b2_o, ite_bPz, ite_bPo, xb_bP, iZ_xin, if_pos, ite_self, ↓reduceIte, Int.reduceAdd, Int.reduceSub, Int.reduceMul, Int.reduceNeg, Int.reduceLT, Int.reduceLE, if_neg]
      · rw [if_neg e3]
        obtain ⟨w, rfl⟩ : ∃ n : Nat, w = n := ⟨w.toNat, by omega⟩
        show xfix gX12_view (0, [some (.inr (.inr (12, 0))), some (.inl (iZ (a))), some (.inl (iZ (b))), some (.inl (iZ (w))), none, none], [], M) = _; rw [xfix_unf, sX12_view_0]
        simp (disch := omega) only [xk_none, xk_inl, xk_inr, xk_ite, xri_v, xrl_v, xrv_v, xb_z0, xb_z1, xb_b2, if_true, if_false, ite_true, ite_false, iZ_lit, iZ_m1, iZ_m99, iZ_m8, iZ_add, iZ_sub, iZ_mul, iZ_neg, nz0, nzi, iZ_lt, iZ_le, iZ_inj, b2_z, b2_o, ite_bPz, ite_bPo, xb_bP, iZ_xin, if_pos, ite_self, ↓reduceIte, Int.reduceAdd, Int.reduceSub, Int.reduceMul, Int.reduceNeg, Int.reduceLT, Int.reduceLE, if_neg, k_isHalf h.A ha hb, e1, k_isIn, e2, and_self, m_seen h.A (by omega : a < 512) hs (by omega : w < 6)]
        rfl
    · refine qR.of h ?_
      rw [vI_f (fun z => e2 z.2)]
      show xfix gX12_view (0, [some (.inr (.inr (12, 0))), some (.inl (iZ (a))), some (.inl (iZ (b))), some (.inl (iZ (w))), none, none], [], M) = _; rw [xfix_unf, sX12_view_0]
      simp (disch := omega) only [xk_none, xk_inl, xk_inr, xk_ite, xri_v, xrl_v, xrv_v, xb_z0, xb_z1, xb_b2, if_true, if_false, ite_true, ite_false, iZ_lit, iZ_m1, iZ_m99, iZ_m8, iZ_add, iZ_sub, iZ_mul, iZ_neg, nz0, nzi, iZ_lt, iZ_le, iZ_inj, b2_z, b2_o, ite_bPz, ite_bPo, xb_bP, iZ_xin, if_pos, ite_self, ↓reduceIte, Int.reduceAdd, Int.reduceSub, Int.reduceMul, Int.reduceNeg, Int.reduceLT, Int.reduceLE, if_neg, k_isHalf h.A ha hb, e1, k_isIn, e2]
  · refine qR.of h ?_
    rw [vI_f (fun z => e1 z.1)]
    show xfix gX12_view (0, [some (.inr (.inr (12, 0))), some (.inl (iZ (a))), some (.inl (iZ (b))), some (.inl (iZ (w))), none, none], [], M) = _; rw [xfix_unf, sX12_view_0]
    simp (disch := omega) only [xk_none, xk_inl, xk_inr, xk_ite, xri_v, xrl_v, xrv_v, xb_z0, xb_z1, xb_b2, if_true, if_false, ite_true, ite_false, iZ_lit, iZ_m1, iZ_m99, iZ_m8, iZ_add, iZ_sub, iZ_mul, iZ_neg, nz0, nzi, iZ_lt, iZ_le, iZ_inj, b2_z, b2_o, ite_bPz, ite_bPo, xb_bP, iZ_xin, if_pos, ite_self, ↓reduceIte, Int.reduceAdd, Int.reduceSub, Int.reduceMul, Int.reduceNeg, Int.reduceLT, Int.reduceLE, if_neg, k_isHalf h.A ha hb, e1]
