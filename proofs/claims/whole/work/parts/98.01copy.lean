/-! the class: a grown body -/
theorem x_growBody {M : xM} {k p w : Nat} (hp : p < 9) (hw : w < 6) : ∃ M', fX10_growBody [.inr (.inr (10, k)), .inl (iZ (p)), .inl (iZ (w))] M = some (none, M') ∧ xSame (fun r => r = (44, 11 * k + 30) ∨ r = (44, 11 * k + 21 + p)) M M' ∧ ∀ c, c < 512 → sB M' (11 * k + 21 + p) c = (sB M (11 * k + 21 + p) c || (stB (sB M (1 + p)) w c && !sB M 0 c)) := by
  obtain ⟨M1, a1, a2, a3⟩ := x_copy (M := M) (k := 11 * k + 30) (j := 10 * 0 + 1 + p) (by omega)
  obtain ⟨M2, b1, b2, b3⟩ := x_step (M := M1) (k := 11 * k + 30) hw
  obtain ⟨M3, c1, c2, c3⟩ := x_drop (M := M2) (k := 11 * k + 30) (j := 0) (by omega)
  obtain ⟨M4, d1, d2, d3⟩ := x_join (M := M3) (k := 11 * k + 21 + p) (j := 11 * k + 30) (by omega)
  refine ⟨M4, ?_, (((a2.wk fun r z => .inl z).tr (b2.wk fun r z => .inl z)).tr (c2.wk fun r z => .inl z)).tr (d2.wk fun r z => .inr z), fun c hc => ?_⟩
  · show xfix gX10_growBody (0, [some (.inr (.inr (10, k))), some (.inl (iZ (p))), some (.inl (iZ (w)))], [], M) = _; rw [xfix_unf, sX10_growBody_0]
    simp (disch := omega) only [xk_none, xk_inl, xk_inr, xk_ite, xri_v, xrl_v, xrv_v, xb_z0, xb_z1, xb_b2, if_true, if_false, ite_true, ite_false, iZ_lit, iZ_m1, iZ_m99, iZ_m8, iZ_add, iZ_sub, iZ_mul, iZ_neg, nz0, nzi, iZ_lt, iZ_le, iZ_inj, b2_z, b2_o, ite_bPz, ite_bPo, xb_bP, iZ_xin, if_pos, ite_self, ↓reduceIte, Int.reduceAdd, Int.reduceSub, Int.reduceMul, Int.reduceNeg, Int.reduceLT, Int.reduceLE, if_neg, nS, iZ_clampN, iZ_bit, iZ_one, iZ_and, iZ_or, iZ_ndn, a1, b1, c1, d1]
  · rw [d3 c hc, c3 c hc, b3 c hc, sB_same c2 (by simp; omega) c, sB_same b2 (by simp; omega) c, sB_same a2 (by simp; omega) c, sB_same b2 (by simp) c, sB_same a2 (by simp) c, stB_cg hc (fun c hc => a3 c hc), show 10 * 0 + 1 + p = 1 + p by omega]
