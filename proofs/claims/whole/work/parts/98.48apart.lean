/-! the class: taking apart, records -/
section
variable {M : xM} {A : dA} {S : dS}
theorem ha_no {G : Nat → Nat} {half : Int} (hG : ∀ p, p < aP A → G p < 2 ^ aP A) (hv : ¬ vH A half) : haA (gx A G) half = -1 := by
  unfold haA
  by_cases c : 0 < half ∧ half < 512
  · obtain ⟨n, rfl⟩ : ∃ n : Nat, half = n := ⟨half.toNat, by omega⟩
    have hn : 2 ^ aP A ≤ n := Nat.le_of_not_lt fun z => hv ⟨c.1, Int.ofNat_lt.mpr z⟩
    rw [Int.toNat_natCast]
    refine if_neg fun q => ?_
    have q3 := ndn_sub q.2.2.2
    by_cases y : jLw n 9 < aP A
    · have e : gx A G (jLw n 9) = G (jLw n 9) := if_pos y
      have := hG _ y
      omega
    · have e : gx A G (jLw n 9) = 0 := if_neg y
      omega
  · exact if_neg fun q => c ⟨q.1, q.2.1⟩
theorem c_apart (hA : aOk A) (hO : stO A S) (h : cZ M A S) {b w : Int} (hb : r32 b) (hw : r32 w) : cQ A (nApart A S b w) (fX11_apart [.inr (.inr (11, 0)), .inl (iZ (b)), .inl (iZ (w))] M) (.inl (iZ (sApart A S b w))) := by
  have hP9 := h.P9
  have hP := pow9 hP9
  have hg : ∀ p, p < aP A → sH S p < 2 ^ aP A := fun p hp => (hO.2.2.1 p hp).1
  have hgx : ∀ p, p < 9 → xI M (35, 0) p = iZ (gx A (sH S) p) ∧ gx A (sH S) p < 512 := fun p hp => ⟨h.pt.1 p hp, by
    by_cases z : p < aP A
    · have e : gx A (sH S) p = sH S p := if_pos z
      have := hg p z
      omega
    · have e : gx A (sH S) p = 0 := if_neg z
      omega⟩
  have k0 := x_heapAround (k := 0) hb hgx
  have k2 := x_isWay (M := M) hw
  have no : ¬ apC A S b w → ∀ M', fX11_apart [.inr (.inr (11, 0)), .inl (iZ (b)), .inl (iZ (w))] M = some (some (.inl (iZ (-1))), M') → cZ M' A S → cQ A (nApart A S b w) (fX11_apart [.inr (.inr (11, 0)), .inl (iZ (b)), .inl (iZ (w))] M) (.inl (iZ (sApart A S b w))) := fun z M' e hz => by
    unfold sApart nApart
    rw [vI_f z, if_neg z]
    exact ⟨M', e, hz⟩
  by_cases c1 : vH A b
  · have c1' := c1
    obtain ⟨b, rfl, h1, h2⟩ := c1.n
    have enb : ((b : Int)).toNat = b := by omega
    rw [ha_is hP9 h1 h2 hg] at k0
    have hp0 : hpO S b = sH S (jLw b 9) := rfl
    by_cases c3 : jHf A (sH S (jLw b 9)) b
    · rw [if_pos c3] at k0
      by_cases c2 : vW w
      · rw [bP_t c2] at k2
        have c2' := c2
        obtain ⟨w, rfl, hw2⟩ := c2.n
        have enw : ((w : Int)).toNat = w := by omega
        have k3 := k_good hA h c3.1 c3.2.1 c3.2.2 hw2
        have hl : sH S (jLw b 9) < 512 := by have := c3.2.1; omega
        by_cases c4 : gdw A (barS A) (sH S (jLw b 9)) b w
        · rw [bP_t c4] at k3
          have hap : apC A S b w := ⟨c1', c2', by rw [enb, hp0]; exact ⟨_, _, rfl, rfl, h1, c3.1, c3.2.1, c3.2.2⟩, by rw [enb, enw, hp0]; exact c4⟩
          unfold sApart nApart
          rw [vI_t hap, if_pos hap, enb, hp0]
          obtain ⟨M1, a1, a2, a3, a4⟩ := x_divide (k := 0) (G := gx A (sH S)) hl (by omega : b < 512) h.pt.2 (fun p hp => (hgx p hp).1)
          have sub := ndn_z.mp c3.2.2
          have hH := c3.2.1
          generalize sH S (jLw b 9) = H at *
          have rows : ∀ r j, (r = (35, 0) ∨ (r = (3, 0) ∧ j = 1)) → shZ r j = false ∧ bnZ r j = false ∧ swZ r j = false ∧ tpZ r j = false ∧ prZ r j = false ∧ w0Z r j = false ∧ w1Z r j = false ∧ rcZ r j = false ∧ hnZ r j = false ∧ orZ r j = false ∧ ntZ r j = false ∧ tmZ r j = false := by
            rintro r j (z | ⟨z, z2⟩) <;> subst z <;> exact ⟨rfl, rfl, rfl, rfl, rfl, rfl, rfl, rfl, rfl, rfl, rfl, rfl⟩
          refine ⟨M1, ?_, ⟨h.1.1.sm a2 fun r j p => (rows r j p).1, h.1.2.1.sm a2 fun r j p => (rows r j p).2.1, h.1.2.2.1.sm a2 fun r j p => (rows r j p).2.2.1, zTp.sm (S := S) h.tp a2 fun r j p => (rows r j p).2.2.2.1, h.Pr.sm a2 fun r j p => (rows r j p).2.2.2.2.1, ⟨h.w0.sm a2 fun r j p => (rows r j p).2.2.2.2.2.1, h.w1.sm a2 fun r j p => (rows r j p).2.2.2.2.2.2.1⟩, ⟨fun p hp => ?_, a3⟩, zRc.sm (S := S) h.rc a2 fun r j p => (rows r j p).2.2.2.2.2.2.2.1⟩, h.2.1.sm a2 fun r j p => (rows r j p).2.2.2.2.2.2.2.2.1, h.2.2.1.sm a2 fun r j p => (rows r j p).2.2.2.2.2.2.2.2.2.1, h.2.2.2.1.sm a2 fun r j p => (rows r j p).2.2.2.2.2.2.2.2.2.2.1, h.2.2.2.2.sm a2 fun r j p => (rows r j p).2.2.2.2.2.2.2.2.2.2.2⟩
          · clear a4 rows no hgx hg sub c3 c4 hap
            show xfix gX11_apart (0, [some (.inr (.inr (11, 0))), some (.inl (iZ (b))), some (.inl (iZ (w))), none], [], M) = _; rw [xfix_unf, sX11_apart_0]
            simp (disch := omega) only [xk_none, xk_inl, xk_inr, xk_ite, xri_v, xrl_v, xrv_v, xb_z0, xb_z1, xb_b2, if_true, if_false, ite_true, ite_false, iZ_lit, iZ_m1, iZ_m99, iZ_m8, iZ_add, iZ_sub, iZ_mul, iZ_neg, nz0, nzi, iZ_lt, iZ_le, iZ_inj, b2_z, b2_o, ite_bPz, ite_bPo, xb_bP, iZ_xin, if_pos, ite_self, ↓reduceIte, Int.reduceAdd, Int.reduceSub, Int.reduceMul, Int.reduceNeg, Int.reduceLT, Int.reduceLE, if_neg, ↓xri_some k0, ↓xri_some k2, ↓xri_some k3, ↓xrv_some a1, a3]
          · rw [a4 p hp]
            show _ = iZ ((gx A (spl H b (sH S)) p : Nat) : Int)
            congr 2
            unfold gx spl
            by_cases y : p < aP A
            · rw [if_pos y, if_pos y]
              by_cases y1 : b.testBit p = true
              · rw [if_pos y1, if_pos (sub p y1), if_pos y1]
              · rw [if_neg y1, if_neg y1]
            · have g1 : ¬ b.testBit p = true := fun z => by
                rw [Nat.testBit_lt_two_pow (Nat.lt_of_lt_of_le h2 (Nat.pow_le_pow_right (by decide) (by omega)))] at z
                cases z
              have g2 : ¬ H.testBit p = true := fun z => by
                rw [Nat.testBit_lt_two_pow (Nat.lt_of_lt_of_le hH (Nat.pow_le_pow_right (by decide) (by omega)))] at z
                cases z
              rw [if_neg y, if_neg y, if_neg g1, if_neg g2]
        · rw [bP_f c4] at k3
          refine no (fun z => c4 ?_) M ?_ h
          · have := z.2.2.2
            rw [enb, enw, hp0] at this
            exact this
          · clear no hgx hg c3 c4
            generalize sH S (jLw b 9) = H at *
            show xfix gX11_apart (0, [some (.inr (.inr (11, 0))), some (.inl (iZ (b))), some (.inl (iZ (w))), none], [], M) = _; rw [xfix_unf, sX11_apart_0]
            simp (disch := omega) only [xk_none, xk_inl, xk_inr, xk_ite, xri_v, xrl_v, xrv_v, xb_z0, xb_z1, xb_b2, if_true, if_false, ite_true, ite_false, iZ_lit, iZ_m1, iZ_m99, iZ_m8, iZ_add, iZ_sub, iZ_mul, iZ_neg, nz0, nzi, iZ_lt, iZ_le, iZ_inj, b2_z, b2_o, ite_bPz, ite_bPo, xb_bP, iZ_xin, if_pos, ite_self, ↓reduceIte, Int.reduceAdd, Int.reduceSub, Int.reduceMul, Int.reduceNeg, Int.reduceLT, Int.reduceLE, if_neg, ↓xri_some k0, ↓xri_some k2, ↓xri_some k3]
      · rw [bP_f c2] at k2
        refine no (fun z => c2 z.2.1) M ?_ h
        have hl : sH S (jLw b 9) < 512 := by have := c3.2.1; omega
        clear no hgx hg c3
        generalize sH S (jLw b 9) = H at *
        show xfix gX11_apart (0, [some (.inr (.inr (11, 0))), some (.inl (iZ (b))), some (.inl (iZ (w))), none], [], M) = _; rw [xfix_unf, sX11_apart_0]
        simp (disch := omega) only [xk_none, xk_inl, xk_inr, xk_ite, xri_v, xrl_v, xrv_v, xb_z0, xb_z1, xb_b2, if_true, if_false, ite_true, ite_false, iZ_lit, iZ_m1, iZ_m99, iZ_m8, iZ_add, iZ_sub, iZ_mul, iZ_neg, nz0, nzi, iZ_lt, iZ_le, iZ_inj, b2_z, b2_o, ite_bPz, ite_bPo, xb_bP, iZ_xin, if_pos, ite_self, ↓reduceIte, Int.reduceAdd, Int.reduceSub, Int.reduceMul, Int.reduceNeg, Int.reduceLT, Int.reduceLE, if_neg, ↓xri_some k0, ↓xri_some k2]
    · rw [if_neg c3] at k0
      refine no (fun z => c3 ?_) M ?_ h
      · have := z.2.2.1
        rw [enb, hp0] at this
        obtain ⟨x, y, e1, e2, z1, z2, z3, z4⟩ := this
        have e1' : sH S (jLw b 9) = x := Int.ofNat.inj e1
        have e2' : b = y := Int.ofNat.inj e2
        rw [e1', e2']
        exact ⟨z2, z3, z4⟩
      · show xfix gX11_apart (0, [some (.inr (.inr (11, 0))), some (.inl (iZ (b))), some (.inl (iZ (w))), none], [], M) = _; rw [xfix_unf, sX11_apart_0]
        simp (disch := omega) only [xk_none, xk_inl, xk_inr, xk_ite, xri_v, xrl_v, xrv_v, xb_z0, xb_z1, xb_b2, if_true, if_false, ite_true, ite_false, iZ_lit, iZ_m1, iZ_m99, iZ_m8, iZ_add, iZ_sub, iZ_mul, iZ_neg, nz0, nzi, iZ_lt, iZ_le, iZ_inj, b2_z, b2_o, ite_bPz, ite_bPo, xb_bP, iZ_xin, if_pos, ite_self, ↓reduceIte, Int.reduceAdd, Int.reduceSub, Int.reduceMul, Int.reduceNeg, Int.reduceLT, Int.reduceLE, if_neg, ↓xri_some k0]
  · rw [ha_no hg c1] at k0
    refine no (fun z => c1 z.1) M ?_ h
    show xfix gX11_apart (0, [some (.inr (.inr (11, 0))), some (.inl (iZ (b))), some (.inl (iZ (w))), none], [], M) = _; rw [xfix_unf, sX11_apart_0]
    simp (disch := omega) only [xk_none, xk_inl, xk_inr, xk_ite, xri_v, xrl_v, xrv_v, xb_z0, xb_z1, xb_b2, if_true, if_false, ite_true, ite_false, iZ_lit, iZ_m1, iZ_m99, iZ_m8, iZ_add, iZ_sub, iZ_mul, iZ_neg, nz0, nzi, iZ_lt, iZ_le, iZ_inj, b2_z, b2_o, ite_bPz, ite_bPo, xb_bP, iZ_xin, if_pos, ite_self, ↓reduceIte, Int.reduceAdd, Int.reduceSub, Int.reduceMul, Int.reduceNeg, Int.reduceLT, Int.reduceLE, if_neg, ↓xri_some k0]
end
