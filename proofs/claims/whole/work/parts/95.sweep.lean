/-! the class: what a body passes -/
theorem stB_cg {f g : Nat → Bool} {w c : Nat} (hc : c < 512) (h : ∀ c, c < 512 → f c = g c) : stB f w c = stB g w c := by
  unfold stB
  have h1 := h (c - 1) (by omega)
  have h2 := h (c - 8) (by omega)
  have h3 := h (c - 64) (by omega)
  have h4 : (decide (c % 8 ≠ 7) && f (c + 1)) = (decide (c % 8 ≠ 7) && g (c + 1)) := by
    by_cases q : c % 8 ≠ 7
    · rw [h (c + 1) (by omega)]
    · rw [decide_eq_false q, Bool.false_and, Bool.false_and]
  have h5 : (decide (c / 8 % 8 ≠ 7) && f (c + 8)) = (decide (c / 8 % 8 ≠ 7) && g (c + 8)) := by
    by_cases q : c / 8 % 8 ≠ 7
    · rw [h (c + 8) (by omega)]
    · rw [decide_eq_false q, Bool.false_and, Bool.false_and]
  have h6 : (decide (c < 448) && f (c + 64)) = (decide (c < 448) && g (c + 64)) := by
    by_cases q : c < 448
    · rw [h (c + 64) (by omega)]
    · rw [decide_eq_false q, Bool.false_and, Bool.false_and]
  rw [h1, h2, h3, h4, h5, h6]
/-- n cells on -/
def itB (f : Nat → Bool) (w : Nat) : Nat → Nat → Bool
  | 0 => f
  | n + 1 => stB (itB f w n) w
theorem x_sweep {M : xM} {k j w : Nat} (hw : w < 6) (h1 : j ≠ 11 * k + 30) (h2 : j ≠ 11 * k + 31) : ∃ M', fX10_sweep [.inr (.inr (10, k)), .inr (.inr (6, j)), .inl (iZ (w))] M = some (none, M') ∧ xSame (fun r => r = (44, 11 * k + 30) ∨ r = (44, 11 * k + 31)) M M' ∧ ∀ c, c < 512 → (sB M' (11 * k + 31) c = true ↔ ∃ n, 1 ≤ n ∧ n < 8 ∧ itB (sB M j) w n c = true) := by
  obtain ⟨M1, a1, a2, a3⟩ := x_copy (M := M) (k := 11 * k + 30) (j := j) (fun e => h1 e.symm)
  obtain ⟨M2, b1, b2, b3⟩ := x_wipe (M := M1) (k := 11 * k + 31)
  have s2 : xSame (fun r => r = (44, 11 * k + 30) ∨ r = (44, 11 * k + 31)) M M2 := (a2.wk fun r z => .inl z).tr (b2.wk fun r z => .inr z)
  obtain ⟨M3, c1, c2, c3, c4⟩ := xfor_M (sg := gX10_sweep) (st := fun i M => (17, [some (.inr (.inr (10, k))), none, some (.inl (iZ (w))), some (.inl (iZ (((i + 1 : Nat)))))], [], M)) (I := fun n K => xSame (fun r => r = (44, 11 * k + 30) ∨ r = (44, 11 * k + 31)) M K ∧ (∀ c, c < 512 → sB K (11 * k + 30) c = itB (sB M j) w n c) ∧ ∀ c, c < 512 → (sB K (11 * k + 31) c = true ↔ ∃ m, 1 ≤ m ∧ m < n + 1 ∧ itB (sB M j) w m c = true)) (n := 7) (fun i K hi hK => by
    obtain ⟨k1, k2, k3⟩ := hK
    obtain ⟨K1, d1, d2, d3⟩ := x_step (M := K) (k := 11 * k + 30) hw
    obtain ⟨K2, e1, e2, e3⟩ := x_join (M := K1) (k := 11 * k + 31) (j := 11 * k + 30) (by omega)
    have m1 : ∀ c, c < 512 → sB K1 (11 * k + 30) c = itB (sB M j) w (i + 1) c := fun c hc => by
      rw [d3 c hc]
      exact stB_cg hc k2
    refine ⟨K2, ?_, (k1.tr (d2.wk fun r z => .inl z)).tr (e2.wk fun r z => .inr z), fun c hc => ?_, fun c hc => ?_⟩
    · have en : ((i + 1 + 1 : Nat) : Int) = ((i + 1 : Nat) : Int) + 1 := rfl
      rw [en]
      have hib : i + 1 ≤ 7 := by omega
      generalize i + 1 = m at *
      rw [xfix_unf, sX10_sweep_17]
      simp (disch := omega) only [xk_none, xk_inl, xk_inr, xk_ite, xri_v, xrl_v, xrv_v, xb_z0, xb_z1, xb_b2, if_true, if_false, ite_true, ite_false, iZ_lit, iZ_m1, iZ_m99, iZ_m8, iZ_add, iZ_sub, iZ_mul, iZ_neg, nz0, nzi, iZ_lt, iZ_le, iZ_inj, b2_z, b2_o, ite_bPz, ite_bPo, xb_bP, iZ_xin, if_pos, ite_self, ↓reduceIte, Int.reduceAdd, Int.reduceSub, Int.reduceMul, Int.reduceNeg, Int.reduceLT, Int.reduceLE, if_neg, d1, e1]
    · rw [sB_same e2 (by simp) c]
      exact m1 c hc
    · rw [e3 c hc, Bool.or_eq_true, m1 c hc, sB_same d2 (by simp) c, k3 c hc]
      constructor
      · rintro (⟨m, x1, x2, x3⟩ | z)
        · exact ⟨m, x1, by omega, x3⟩
        · exact ⟨i + 1, by omega, by omega, z⟩
      · rintro ⟨m, x1, x2, x3⟩
        by_cases e : m = i + 1
        · exact .inr (e ▸ x3)
        · exact .inl ⟨m, x1, by omega, x3⟩) (a := 0) (M := M2) (by omega) ⟨s2, fun c hc => by rw [sB_same b2 (by simp) c]; exact a3 c hc, fun c hc => by
      rw [b3 c hc]
      exact ⟨fun z => Bool.noConfusion z, fun ⟨m, x1, x2, _⟩ => by omega⟩⟩
  refine ⟨M3, ?_, c2, c4⟩
  have e8 : ((7 + 1 : Nat) : Int) = 8 := rfl
  show xfix gX10_sweep (0, [some (.inr (.inr (10, k))), some (.inr (.inr (6, j))), some (.inl (iZ (w))), none], [], M) = _; rw [xfix_unf, sX10_sweep_0]
  simp (disch := omega) only [xk_none, xk_inl, xk_inr, xk_ite, xri_v, xrl_v, xrv_v, xb_z0, xb_z1, xb_b2, if_true, if_false, ite_true, ite_false, iZ_lit, iZ_m1, iZ_m99, iZ_m8, iZ_add, iZ_sub, iZ_mul, iZ_neg, nz0, nzi, iZ_lt, iZ_le, iZ_inj, b2_z, b2_o, ite_bPz, ite_bPo, xb_bP, iZ_xin, if_pos, ite_self, ↓reduceIte, Int.reduceAdd, Int.reduceSub, Int.reduceMul, Int.reduceNeg, Int.reduceLT, Int.reduceLE, if_neg, a1, b1]
  refine Eq.trans c1 ?_
  rw [xfix_unf, sX10_sweep_17]
  simp (disch := omega) only [xk_none, xk_inl, xk_inr, xk_ite, xri_v, xrl_v, xrv_v, xb_z0, xb_z1, xb_b2, if_true, if_false, ite_true, ite_false, iZ_lit, iZ_m1, iZ_m99, iZ_m8, iZ_add, iZ_sub, iZ_mul, iZ_neg, nz0, nzi, iZ_lt, iZ_le, iZ_inj, b2_z, b2_o, ite_bPz, ite_bPo, xb_bP, iZ_xin, if_pos, ite_self, ↓reduceIte, Int.reduceAdd, Int.reduceSub, Int.reduceMul, Int.reduceNeg, Int.reduceLT, Int.reduceLE, if_neg, e8]
