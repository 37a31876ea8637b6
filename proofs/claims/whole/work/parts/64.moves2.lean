/-! the reference: what strikes, what is free -/
def stS (A : dA) (half rest : Nat) (x y z : Int) : Prop := ∃ c, c < 512 ∧ inH A half c ∧ r3 A rest (((c % 8 : Nat) : Int) + x) (((c / 8 % 8 : Nat) : Int) + y) (((c / 64 : Nat) : Int) + z)
theorem m_strikes {A : dA} {M : xM} {half rest n : Nat} {x y z : Int} (h : mA M A) (hL : hLs A half 512 M n) (h2 : rest < 512) (hx : -20 ≤ x ∧ x ≤ 20) (hy : -20 ≤ y ∧ y ≤ 20) (hz : -20 ≤ z ∧ z ≤ 20) : fX12_strikes [.inr (.inr (12, 0)), .inl (iZ (rest)), .inl (iZ (x)), .inl (iZ (y)), .inl (iZ (z))] M = some (some (.inl (bP (stS A half rest x y z))), M) := by
  have hP := h.ok.P
  obtain ⟨l1, l2, l3, l4⟩ := hL
  have hl := xfor_all (sg := gX12_strikes) (st := fun i => (3, [some (.inr (.inr (12, 0))), some (.inl (iZ (rest))), some (.inl (iZ (x))), some (.inl (iZ (y))), some (.inl (iZ (z))), some (.inl (iZ (i))), none, none], [], M)) (R := fun i => some (some (.inl (bP (∃ k, i ≤ k ∧ k < n ∧ ∃ c : Nat, c < 512 ∧ xI M (153, 0) k = iZ c ∧ r3 A rest (((c % 8 : Nat) : Int) + x) (((c / 8 % 8 : Nat) : Int) + y) (((c / 64 : Nat) : Int) + z)))), M)) (n := n) (fun i hi ih => by
    rw [ex_from hi]
    rw [nS] at ih
    obtain ⟨c, c1, c2, c3⟩ := l3 i hi
    have hat := aat_le h.ok (((c % 8 : Nat) : Int) + x) (((c / 8 % 8 : Nat) : Int) + y) (((c / 64 : Nat) : Int) + z)
    have hm := m_at (((c % 8 : Nat) : Int) + x) (((c / 8 % 8 : Nat) : Int) + y) (((c / 64 : Nat) : Int) + z) M h (by omega) (by omega) (by omega)
    have key : ∀ b : Prop, (b ↔ r3 A rest (((c % 8 : Nat) : Int) + x) (((c / 8 % 8 : Nat) : Int) + y) (((c / 64 : Nat) : Int) + z)) → (b ↔ ∃ c : Nat, c < 512 ∧ xI M (153, 0) i = iZ c ∧ r3 A rest (((c % 8 : Nat) : Int) + x) (((c / 8 % 8 : Nat) : Int) + y) (((c / 64 : Nat) : Int) + z)) := fun b hb => ⟨fun q => ⟨c, c1, c2, hb.mp q⟩, fun ⟨c', y1, y2, y3⟩ => hb.mpr (by
      rw [c2] at y2
      have : c = c' := by
        have := (iZ_inj (a := (c : Int)) (b := (c' : Int)) (by omega) (by omega)).mp y2
        omega
      rw [this]; exact y3)⟩
    simp only [c2] at key
    rw [xfix_unf, sX12_strikes_3]
    simp (disch := omega) only [xk_none, xk_inl, xk_inr, xk_ite, xri_v, xrl_v, xrv_v, xb_z0, xb_z1, xb_b2, if_true, if_false, ite_true, ite_false, iZ_lit, iZ_m1, iZ_m99, iZ_m8, iZ_add, iZ_sub, iZ_mul, iZ_neg, nz0, nzi, iZ_lt, iZ_le, iZ_inj, b2_z, b2_o, ite_bPz, ite_bPo, xb_bP, iZ_xin, if_pos, ite_self, ↓reduceIte, Int.reduceAdd, Int.reduceSub, Int.reduceMul, Int.reduceNeg, Int.reduceLT, Int.reduceLE, if_neg, nS, iZ_clampN, iZ_bit, iZ_one, iZ_and, iZ_or, iZ_ndn, l1, c2, iZ_div, Int.ediv_nonneg, z8, z88, z64, hm, ih]
    by_cases e : aat A (((c % 8 : Nat) : Int) + x) (((c / 8 % 8 : Nat) : Int) + y) (((c / 64 : Nat) : Int) + z) = -1
    · rw [if_pos e]
      refine rP ⟨.inr, fun q => q.elim (fun q => ?_) id⟩
      have := (key False ⟨False.elim, fun ⟨p, p1, _⟩ => by omega⟩).mpr q
      exact this.elim
    · obtain ⟨p, hp⟩ : ∃ p : Nat, aat A (((c % 8 : Nat) : Int) + x) (((c / 8 % 8 : Nat) : Int) + y) (((c / 64 : Nat) : Int) + z) = p := ⟨(aat A (((c % 8 : Nat) : Int) + x) (((c / 8 % 8 : Nat) : Int) + y) (((c / 64 : Nat) : Int) + z)).toNat, by omega⟩
      rw [if_neg e, hp]
      simp (disch := omega) only [xk_none, xk_inl, xk_inr, xk_ite, xri_v, xrl_v, xrv_v, xb_z0, xb_z1, xb_b2, if_true, if_false, ite_true, ite_false, iZ_lit, iZ_m1, iZ_m99, iZ_m8, iZ_add, iZ_sub, iZ_mul, iZ_neg, nz0, nzi, iZ_lt, iZ_le, iZ_inj, b2_z, b2_o, ite_bPz, ite_bPo, xb_bP, iZ_xin, if_pos, ite_self, ↓reduceIte, Int.reduceAdd, Int.reduceSub, Int.reduceMul, Int.reduceNeg, Int.reduceLT, Int.reduceLE, if_neg, nS, iZ_clampN, iZ_bit, iZ_one, iZ_and, iZ_or, iZ_ndn]
      by_cases e2 : rest.testBit p = true
      · rw [if_pos e2, bP_t (.inl ((key True ⟨fun _ => ⟨p, hp, e2⟩, fun _ => trivial⟩).mp trivial))]
      · rw [if_neg e2]
        refine rP ⟨.inr, fun q => q.elim (fun q => ?_) id⟩
        have := (key False ⟨False.elim, fun ⟨p', p1, p2⟩ => by
          rw [show p' = p by omega] at p2
          exact e2 p2⟩).mpr q
        exact this.elim) (by
    rw [xfix_unf, sX12_strikes_3]
    simp (disch := omega) only [xk_none, xk_inl, xk_inr, xk_ite, xri_v, xrl_v, xrv_v, xb_z0, xb_z1, xb_b2, if_true, if_false, ite_true, ite_false, iZ_lit, iZ_m1, iZ_m99, iZ_m8, iZ_add, iZ_sub, iZ_mul, iZ_neg, nz0, nzi, iZ_lt, iZ_le, iZ_inj, b2_z, b2_o, ite_bPz, ite_bPo, xb_bP, iZ_xin, if_pos, ite_self, ↓reduceIte, Int.reduceAdd, Int.reduceSub, Int.reduceMul, Int.reduceNeg, Int.reduceLT, Int.reduceLE, if_neg, nS, iZ_clampN, iZ_bit, iZ_one, iZ_and, iZ_or, iZ_ndn, l1]
    rw [bP_f (fun ⟨k, k1, k2, _⟩ => by omega)]) (i := 0) (by omega)
  show xfix gX12_strikes (0, [some (.inr (.inr (12, 0))), some (.inl (iZ (rest))), some (.inl (iZ (x))), some (.inl (iZ (y))), some (.inl (iZ (z))), none, none, none], [], M) = _; rw [xfix_unf, sX12_strikes_0]
  simp (disch := omega) only [xk_none, xk_inl, xk_inr, xk_ite, xri_v, xrl_v, xrv_v, xb_z0, xb_z1, xb_b2, if_true, if_false, ite_true, ite_false, iZ_lit, iZ_m1, iZ_m99, iZ_m8, iZ_add, iZ_sub, iZ_mul, iZ_neg, nz0, nzi, iZ_lt, iZ_le, iZ_inj, b2_z, b2_o, ite_bPz, ite_bPo, xb_bP, iZ_xin, if_pos, ite_self, ↓reduceIte, Int.reduceAdd, Int.reduceSub, Int.reduceMul, Int.reduceNeg, Int.reduceLT, Int.reduceLE, if_neg]
  refine hl.trans (rP ⟨fun ⟨k, _, k2, c, c1, c2, c3⟩ => ?_, fun ⟨c, c1, c2, c3⟩ => ?_⟩)
  · obtain ⟨c', y1, y2, y3⟩ := l3 k k2
    rw [y2] at c2
    have : c' = c := by
      have := (iZ_inj (a := (c' : Int)) (b := (c : Int)) (by omega) (by omega)).mp c2
      omega
    rw [this] at y3
    exact ⟨c, c1, y3, c3⟩
  · obtain ⟨k, k1, k2⟩ := l4 c c1 c2
    exact ⟨k, by omega, k1, c, c1, k2, c3⟩
/-- something stands on the way of a place -/
def blk (A : dA) (rest w : Nat) (x y z : Int) : Prop := ∃ k : Nat, 1 ≤ k ∧ r3 A rest (x + k * dX w) (y + k * dY w) (z + k * dZ w)
def lnI (w : Nat) (x y z : Int) : Int := if w < 2 then 8 * z + y else if w < 4 then 64 + 8 * z + x else 128 + 8 * y + x
def vaI (w : Nat) (x y z : Int) : Int := if w < 2 then x else if w < 4 then y else z
def onI (w : Nat) (x y z : Int) : Prop := if w < 2 then (0 ≤ y ∧ y ≤ 7) ∧ (0 ≤ z ∧ z ≤ 7) else if w < 4 then (0 ≤ x ∧ x ≤ 7) ∧ (0 ≤ z ∧ z ≤ 7) else (0 ≤ x ∧ x ≤ 7) ∧ (0 ≤ y ∧ y ≤ 7)
theorem lnI_b {w : Nat} {x y z : Int} (h : onI w x y z) : 0 ≤ lnI w x y z ∧ lnI w x y z < 192 := by
  unfold onI at h
  unfold lnI
  (repeat' split) <;> simp_all <;> omega
theorem blk_on {A : dA} {rest w : Nat} {x y z : Int} (hw : w < 6) (h : ¬ onI w x y z) : ¬ blk A rest w x y z := by
  rintro ⟨k, k1, k2⟩
  have := r3_in k2
  refine h ?_
  unfold onI
  rcases w6 hw with e | e | e | e | e | e <;> subst e <;> simp [dX, dY, dZ] at this ⊢ <;> omega
theorem blk_iff {A : dA} {rest w : Nat} {x y z : Int} (hw : w < 6) (h : onI w x y z) : blk A rest w x y z ↔ ∃ c, c < 512 ∧ inH A rest c ∧ onl (lnI w x y z).toNat c ∧ (if w % 2 = 0 then vaI w x y z < cof (lnI w x y z).toNat c else (cof (lnI w x y z).toNat c : Int) < vaI w x y z) := by
  unfold onI at h
  constructor
  · rintro ⟨k, k1, k2⟩
    have hin := r3_in k2
    rw [r3_c hin] at k2
    refine ⟨_, by omega, k2, ?_, ?_⟩
    · unfold onl lnI
      rcases w6 hw with e | e | e | e | e | e <;> subst e <;> simp [dX, dY, dZ] at hin h ⊢ <;> (repeat' split) <;> omega
    · unfold vaI cof lnI
      rcases w6 hw with e | e | e | e | e | e <;> subst e <;> simp [dX, dY, dZ] at hin h ⊢ <;> (repeat' split) <;> omega
  · rintro ⟨c, c1, c2, c3, c4⟩
    rw [r3_n c1] at c2
    unfold onl lnI at c3
    unfold vaI cof lnI at c4
    rcases w6 hw with e | e | e | e | e | e <;> subst e <;> simp at h c3 c4
    · refine ⟨(((c % 8 : Nat) : Int) - x).toNat, ?_, ?_⟩
      · split at c4 <;> omega
      · have e1 : x + (((c % 8 : Nat) : Int) - x).toNat * dX 0 = ((c % 8 : Nat) : Int) := by simp [dX]; split at c4 <;> omega
        have e2 : y + (((c % 8 : Nat) : Int) - x).toNat * dY 0 = ((c / 8 % 8 : Nat) : Int) := by simp [dY]; split at c3 <;> omega
        have e3 : z + (((c % 8 : Nat) : Int) - x).toNat * dZ 0 = ((c / 64 : Nat) : Int) := by simp [dZ]; split at c3 <;> omega
        rw [e1, e2, e3]; exact c2
    · refine ⟨(x - ((c % 8 : Nat) : Int)).toNat, ?_, ?_⟩
      · split at c4 <;> omega
      · have e1 : x + (x - ((c % 8 : Nat) : Int)).toNat * dX 1 = ((c % 8 : Nat) : Int) := by simp [dX]; split at c4 <;> omega
        have e2 : y + (x - ((c % 8 : Nat) : Int)).toNat * dY 1 = ((c / 8 % 8 : Nat) : Int) := by simp [dY]; split at c3 <;> omega
        have e3 : z + (x - ((c % 8 : Nat) : Int)).toNat * dZ 1 = ((c / 64 : Nat) : Int) := by simp [dZ]; split at c3 <;> omega
        rw [e1, e2, e3]; exact c2
    · refine ⟨(((c / 8 % 8 : Nat) : Int) - y).toNat, ?_, ?_⟩
      · (repeat' split at c4) <;> omega
      · have e1 : x + (((c / 8 % 8 : Nat) : Int) - y).toNat * dX 2 = ((c % 8 : Nat) : Int) := by simp [dX]; (repeat' split at c3) <;> omega
        have e2 : y + (((c / 8 % 8 : Nat) : Int) - y).toNat * dY 2 = ((c / 8 % 8 : Nat) : Int) := by simp [dY]; (repeat' split at c4) <;> omega
        have e3 : z + (((c / 8 % 8 : Nat) : Int) - y).toNat * dZ 2 = ((c / 64 : Nat) : Int) := by simp [dZ]; (repeat' split at c3) <;> omega
        rw [e1, e2, e3]; exact c2
    · refine ⟨(y - ((c / 8 % 8 : Nat) : Int)).toNat, ?_, ?_⟩
      · (repeat' split at c4) <;> omega
      · have e1 : x + (y - ((c / 8 % 8 : Nat) : Int)).toNat * dX 3 = ((c % 8 : Nat) : Int) := by simp [dX]; (repeat' split at c3) <;> omega
        have e2 : y + (y - ((c / 8 % 8 : Nat) : Int)).toNat * dY 3 = ((c / 8 % 8 : Nat) : Int) := by simp [dY]; (repeat' split at c4) <;> omega
        have e3 : z + (y - ((c / 8 % 8 : Nat) : Int)).toNat * dZ 3 = ((c / 64 : Nat) : Int) := by simp [dZ]; (repeat' split at c3) <;> omega
        rw [e1, e2, e3]; exact c2
    · refine ⟨(((c / 64 : Nat) : Int) - z).toNat, ?_, ?_⟩
      · (repeat' split at c4) <;> omega
      · have e1 : x + (((c / 64 : Nat) : Int) - z).toNat * dX 4 = ((c % 8 : Nat) : Int) := by simp [dX]; (repeat' split at c3) <;> omega
        have e2 : y + (((c / 64 : Nat) : Int) - z).toNat * dY 4 = ((c / 8 % 8 : Nat) : Int) := by simp [dY]; (repeat' split at c3) <;> omega
        have e3 : z + (((c / 64 : Nat) : Int) - z).toNat * dZ 4 = ((c / 64 : Nat) : Int) := by simp [dZ]; (repeat' split at c4) <;> omega
        rw [e1, e2, e3]; exact c2
    · refine ⟨(z - ((c / 64 : Nat) : Int)).toNat, ?_, ?_⟩
      · (repeat' split at c4) <;> omega
      · have e1 : x + (z - ((c / 64 : Nat) : Int)).toNat * dX 5 = ((c % 8 : Nat) : Int) := by simp [dX]; (repeat' split at c3) <;> omega
        have e2 : y + (z - ((c / 64 : Nat) : Int)).toNat * dY 5 = ((c / 8 % 8 : Nat) : Int) := by simp [dY]; (repeat' split at c3) <;> omega
        have e3 : z + (z - ((c / 64 : Nat) : Int)).toNat * dZ 5 = ((c / 64 : Nat) : Int) := by simp [dZ]; (repeat' split at c4) <;> omega
        rw [e1, e2, e3]; exact c2
theorem lbd_iff {A : dA} {rest k : Nat} {lo hi v : Int} (h : lbd A rest 512 k lo hi) (hv : -90 ≤ v ∧ v ≤ 90) : (v < hi ↔ ∃ c, c < 512 ∧ inH A rest c ∧ onl k c ∧ v < cof k c) ∧ (lo < v ↔ ∃ c, c < 512 ∧ inH A rest c ∧ onl k c ∧ (cof k c : Int) < v) := by
  obtain ⟨a, b, c, d, e⟩ := h
  refine ⟨⟨fun z => ?_, fun ⟨x, x1, x2, x3, x4⟩ => ?_⟩, ⟨fun z => ?_, fun ⟨x, x1, x2, x3, x4⟩ => ?_⟩⟩
  · rcases c with c | ⟨x, x1, x2, x3, x4⟩
    · omega
    · exact ⟨x, x1, x2, x3, by omega⟩
  · have := a x x1 x2 x3; omega
  · rcases b with b | ⟨x, x1, x2, x3, x4⟩
    · omega
    · exact ⟨x, x1, x2, x3, by omega⟩
  · have := a x x1 x2 x3; omega

def fwS (A : dA) (half rest w : Nat) (x y z : Int) : Prop := ∀ c, c < 512 → inH A half c → ¬ blk A rest w (((c % 8 : Nat) : Int) + x) (((c / 8 % 8 : Nat) : Int) + y) (((c / 64 : Nat) : Int) + z)
theorem fr_cell {A : dA} {M : xM} {half rest n : Nat} (hN : mLn A rest 512 M) (hw : half = half) {w i c : Nat} {x y z : Int} (hw6 : w < 6) (hi : i < n) (hn : n ≤ 512) (hx : -20 ≤ x ∧ x ≤ 20) (hy : -20 ≤ y ∧ y ≤ 20) (hz : -20 ≤ z ∧ z ≤ 20) (hc : c < 512) (l1 : xI M (12, 0) 56 = iZ n) (c2 : xI M (153, 0) i = iZ c) : xfix gX12_isFree (3, [some (.inr (.inr (12, 0))), some (.inl (iZ (w))), some (.inl (iZ (x))), some (.inl (iZ (y))), some (.inl (iZ (z))), some (.inl (iZ (i))), none, none, none, none, none, none, none], [], M) = @ite _ (blk A rest w (((c % 8 : Nat) : Int) + x) (((c / 8 % 8 : Nat) : Int) + y) (((c / 64 : Nat) : Int) + z)) (Classical.propDecidable _) (some (some (.inl (iZ (0))), M)) (xfix gX12_isFree (3, [some (.inr (.inr (12, 0))), some (.inl (iZ (w))), some (.inl (iZ (x))), some (.inl (iZ (y))), some (.inl (iZ (z))), some (.inl (iZ (((i : Int) + 1)))), none, none, none, none, none, none, none], [], M)) := by
  have e149 : xfix gX12_isFree (3, [some (.inr (.inr (12, 0))), some (.inl (iZ (w))), some (.inl (iZ (x))), some (.inl (iZ (y))), some (.inl (iZ (z))), some (.inl (iZ (i))), none, none, none, none, none, none, none], [], M) = xfix gX12_isFree (149, [some (.inr (.inr (12, 0))), some (.inl (iZ (w))), some (.inl (iZ (x))), some (.inl (iZ (y))), some (.inl (iZ (z))), some (.inl (iZ (i))), none, some (.inl (iZ ((((c % 8 : Nat) : Int) + x)))), some (.inl (iZ ((((c / 8 % 8 : Nat) : Int) + y)))), some (.inl (iZ ((((c / 64 : Nat) : Int) + z)))), none, none, none], [.inl (bP ((onI w (((c % 8 : Nat) : Int) + x) (((c / 8 % 8 : Nat) : Int) + y) (((c / 64 : Nat) : Int) + z))))], M) := by
    have kx := k_isIn (M := M) (v := ((c % 8 : Nat) : Int) + x) (lo := 0) (hi := 7) (by omega) (by omega) (by omega)
    have ky := k_isIn (M := M) (v := ((c / 8 % 8 : Nat) : Int) + y) (lo := 0) (hi := 7) (by omega) (by omega) (by omega)
    have kz := k_isIn (M := M) (v := ((c / 64 : Nat) : Int) + z) (lo := 0) (hi := 7) (by omega) (by omega) (by omega)
    rw [xfix_unf, sX12_isFree_3]
    by_cases w1 : w < 2
    · have eo : onI w (((c % 8 : Nat) : Int) + x) (((c / 8 % 8 : Nat) : Int) + y) (((c / 64 : Nat) : Int) + z) ↔ (0 ≤ ((c / 8 % 8 : Nat) : Int) + y ∧ ((c / 8 % 8 : Nat) : Int) + y ≤ 7) ∧ (0 ≤ ((c / 64 : Nat) : Int) + z ∧ ((c / 64 : Nat) : Int) + z ≤ 7) := by unfold onI; rw [if_pos w1]
      rw [bP_c eo]
      simp (disch := omega) only [xk_none, xk_inl, xk_inr, xk_ite, xri_v, xrl_v, xrv_v, xb_z0, xb_z1, xb_b2, if_true, if_false, ite_true, ite_false, iZ_lit, iZ_m1, iZ_m99, iZ_m8, iZ_add, iZ_sub, iZ_mul, iZ_neg, nz0, nzi, iZ_lt, iZ_le, iZ_inj, b2_z, b2_o, ite_bPz, ite_bPo, xb_bP, iZ_xin, if_pos, ite_self, ↓reduceIte, Int.reduceAdd, Int.reduceSub, Int.reduceMul, Int.reduceNeg, Int.reduceLT, Int.reduceLE, if_neg, nS, iZ_clampN, iZ_bit, iZ_one, iZ_and, iZ_or, iZ_ndn, l1, c2, iZ_div, Int.ediv_nonneg, z8, z88, z64, kx, ky, kz]
      (repeat' split) <;> first | (rw [bP_t (by omega)]) | (rw [bP_f (by omega)])
    · by_cases w2 : w < 4
      · have eo : onI w (((c % 8 : Nat) : Int) + x) (((c / 8 % 8 : Nat) : Int) + y) (((c / 64 : Nat) : Int) + z) ↔ (0 ≤ ((c % 8 : Nat) : Int) + x ∧ ((c % 8 : Nat) : Int) + x ≤ 7) ∧ (0 ≤ ((c / 64 : Nat) : Int) + z ∧ ((c / 64 : Nat) : Int) + z ≤ 7) := by unfold onI; rw [if_neg w1, if_pos w2]
        rw [bP_c eo]
        simp (disch := omega) only [xk_none, xk_inl, xk_inr, xk_ite, xri_v, xrl_v, xrv_v, xb_z0, xb_z1, xb_b2, if_true, if_false, ite_true, ite_false, iZ_lit, iZ_m1, iZ_m99, iZ_m8, iZ_add, iZ_sub, iZ_mul, iZ_neg, nz0, nzi, iZ_lt, iZ_le, iZ_inj, b2_z, b2_o, ite_bPz, ite_bPo, xb_bP, iZ_xin, if_pos, ite_self, ↓reduceIte, Int.reduceAdd, Int.reduceSub, Int.reduceMul, Int.reduceNeg, Int.reduceLT, Int.reduceLE, if_neg, nS, iZ_clampN, iZ_bit, iZ_one, iZ_and, iZ_or, iZ_ndn, l1, c2, iZ_div, Int.ediv_nonneg, z8, z88, z64, kx, ky, kz]
        (repeat' split) <;> first | (rw [bP_t (by omega)]) | (rw [bP_f (by omega)])
      · have eo : onI w (((c % 8 : Nat) : Int) + x) (((c / 8 % 8 : Nat) : Int) + y) (((c / 64 : Nat) : Int) + z) ↔ (0 ≤ ((c % 8 : Nat) : Int) + x ∧ ((c % 8 : Nat) : Int) + x ≤ 7) ∧ (0 ≤ ((c / 8 % 8 : Nat) : Int) + y ∧ ((c / 8 % 8 : Nat) : Int) + y ≤ 7) := by unfold onI; rw [if_neg w1, if_neg w2]
        rw [bP_c eo]
        simp (disch := omega) only [xk_none, xk_inl, xk_inr, xk_ite, xri_v, xrl_v, xrv_v, xb_z0, xb_z1, xb_b2, if_true, if_false, ite_true, ite_false, iZ_lit, iZ_m1, iZ_m99, iZ_m8, iZ_add, iZ_sub, iZ_mul, iZ_neg, nz0, nzi, iZ_lt, iZ_le, iZ_inj, b2_z, b2_o, ite_bPz, ite_bPo, xb_bP, iZ_xin, if_pos, ite_self, ↓reduceIte, Int.reduceAdd, Int.reduceSub, Int.reduceMul, Int.reduceNeg, Int.reduceLT, Int.reduceLE, if_neg, nS, iZ_clampN, iZ_bit, iZ_one, iZ_and, iZ_or, iZ_ndn, l1, c2, iZ_div, Int.ediv_nonneg, z8, z88, z64, kx, ky, kz]
        (repeat' split) <;> first | (rw [bP_t (by omega)]) | (rw [bP_f (by omega)])
  have bX : -30 ≤ ((c % 8 : Nat) : Int) + x ∧ ((c % 8 : Nat) : Int) + x ≤ 30 := by omega
  have bY : -30 ≤ ((c / 8 % 8 : Nat) : Int) + y ∧ ((c / 8 % 8 : Nat) : Int) + y ≤ 30 := by omega
  have bZ : -30 ≤ ((c / 64 : Nat) : Int) + z ∧ ((c / 64 : Nat) : Int) + z ≤ 30 := by omega
  rw [e149]
  generalize ((c % 8 : Nat) : Int) + x = X at *
  generalize ((c / 8 % 8 : Nat) : Int) + y = Y at *
  generalize ((c / 64 : Nat) : Int) + z = Z at *
  by_cases ho : onI w X Y Z
  · have hb := lnI_b ho
    have hbi := blk_iff (A := A) (rest := rest) hw6 ho
    have e206 : xfix gX12_isFree (149, [some (.inr (.inr (12, 0))), some (.inl (iZ (w))), some (.inl (iZ (x))), some (.inl (iZ (y))), some (.inl (iZ (z))), some (.inl (iZ (i))), none, some (.inl (iZ (X))), some (.inl (iZ (Y))), some (.inl (iZ (Z))), none, none, none], [.inl (iZ ((1 : Int)))], M) = xfix gX12_isFree (206, [some (.inr (.inr (12, 0))), some (.inl (iZ (w))), some (.inl (iZ (x))), some (.inl (iZ (y))), some (.inl (iZ (z))), some (.inl (iZ (i))), none, some (.inl (iZ (X))), some (.inl (iZ (Y))), some (.inl (iZ (Z))), none, none, none], [.inl (iZ ((lnI w X Y Z)))], M) := by
      unfold lnI
      rw [xfix_unf, sX12_isFree_149]
      simp (disch := omega) only [xk_none, xk_inl, xk_inr, xk_ite, xri_v, xrl_v, xrv_v, xb_z0, xb_z1, xb_b2, if_true, if_false, ite_true, ite_false, iZ_lit, iZ_m1, iZ_m99, iZ_m8, iZ_add, iZ_sub, iZ_mul, iZ_neg, nz0, nzi, iZ_lt, iZ_le, iZ_inj, b2_z, b2_o, ite_bPz, ite_bPo, xb_bP, iZ_xin, if_pos, ite_self, ↓reduceIte, Int.reduceAdd, Int.reduceSub, Int.reduceMul, Int.reduceNeg, Int.reduceLT, Int.reduceLE, if_neg, nS, iZ_clampN, iZ_bit, iZ_one, iZ_and, iZ_or, iZ_ndn]
      by_cases w1 : w < 2
      · rw [if_pos w1, if_neg (by omega)]
      · rw [if_neg w1, if_pos (by omega)]
        by_cases w2 : w < 4
        · rw [if_pos w2, if_neg (by omega)]
        · rw [if_neg w2, if_pos (by omega)]
    have e230 : xfix gX12_isFree (206, [some (.inr (.inr (12, 0))), some (.inl (iZ (w))), some (.inl (iZ (x))), some (.inl (iZ (y))), some (.inl (iZ (z))), some (.inl (iZ (i))), none, some (.inl (iZ (X))), some (.inl (iZ (Y))), some (.inl (iZ (Z))), none, none, none], [.inl (iZ ((lnI w X Y Z)))], M) = xfix gX12_isFree (230, [some (.inr (.inr (12, 0))), some (.inl (iZ (w))), some (.inl (iZ (x))), some (.inl (iZ (y))), some (.inl (iZ (z))), some (.inl (iZ (i))), none, none, none, none, none, some (.inl (iZ ((lnI w X Y Z)))), none], [.inl (iZ ((vaI w X Y Z)))], M) := by
      generalize lnI w X Y Z = LL
      unfold vaI
      rw [xfix_unf, sX12_isFree_206]
      simp (disch := omega) only [xk_none, xk_inl, xk_inr, xk_ite, xri_v, xrl_v, xrv_v, xb_z0, xb_z1, xb_b2, if_true, if_false, ite_true, ite_false, iZ_lit, iZ_m1, iZ_m99, iZ_m8, iZ_add, iZ_sub, iZ_mul, iZ_neg, nz0, nzi, iZ_lt, iZ_le, iZ_inj, b2_z, b2_o, ite_bPz, ite_bPo, xb_bP, iZ_xin, if_pos, ite_self, ↓reduceIte, Int.reduceAdd, Int.reduceSub, Int.reduceMul, Int.reduceNeg, Int.reduceLT, Int.reduceLE, if_neg, nS, iZ_clampN, iZ_bit, iZ_one, iZ_and, iZ_or, iZ_ndn]
      by_cases w1 : w < 2
      · rw [if_pos w1, if_neg (by omega)]
      · rw [if_neg w1, if_pos (by omega)]
        by_cases w2 : w < 4
        · rw [if_pos w2, if_neg (by omega)]
        · rw [if_neg w2, if_pos (by omega)]
    have hva : -90 ≤ vaI w X Y Z ∧ vaI w X Y Z ≤ 90 := by unfold vaI; (repeat' split) <;> omega
    obtain ⟨kk, hkk⟩ : ∃ kk : Nat, lnI w X Y Z = kk := ⟨(lnI w X Y Z).toNat, by omega⟩
    obtain ⟨lo, hi', q1, q2, q3⟩ := hN kk (by omega)
    have q4 := lbd_iff q3 hva
    have q5 := q3.2.2.2
    rw [bP_t ho, e206, e230, hkk]
    have enk : ((kk : Int)).toNat = kk := by omega
    rw [hkk, enk] at hbi
    generalize vaI w X Y Z = V at *
    rw [xfix_unf, sX12_isFree_230]
    by_cases w2 : w % 2 = 0
    · simp only [if_pos w2] at hbi
      rw [← q4.1] at hbi
      simp (disch := omega) only [xk_none, xk_inl, xk_inr, xk_ite, xri_v, xrl_v, xrv_v, xb_z0, xb_z1, xb_b2, if_true, if_false, ite_true, ite_false, iZ_lit, iZ_m1, iZ_m99, iZ_m8, iZ_add, iZ_sub, iZ_mul, iZ_neg, nz0, nzi, iZ_lt, iZ_le, iZ_inj, b2_z, b2_o, ite_bPz, ite_bPo, xb_bP, iZ_xin, if_pos, ite_self, ↓reduceIte, Int.reduceAdd, Int.reduceSub, Int.reduceMul, Int.reduceNeg, Int.reduceLT, Int.reduceLE, if_neg, nS, iZ_clampN, iZ_bit, iZ_one, iZ_and, iZ_or, iZ_ndn, iZ_div, z2, w2, q2]
      by_cases d : V < hi'
      · rw [if_pos (hbi.mpr d), if_neg (by omega)]
      · rw [if_neg (fun q => d (hbi.mp q)), if_pos (by omega)]
    · simp only [if_neg w2] at hbi
      rw [← q4.2] at hbi
      simp (disch := omega) only [xk_none, xk_inl, xk_inr, xk_ite, xri_v, xrl_v, xrv_v, xb_z0, xb_z1, xb_b2, if_true, if_false, ite_true, ite_false, iZ_lit, iZ_m1, iZ_m99, iZ_m8, iZ_add, iZ_sub, iZ_mul, iZ_neg, nz0, nzi, iZ_lt, iZ_le, iZ_inj, b2_z, b2_o, ite_bPz, ite_bPo, xb_bP, iZ_xin, if_pos, ite_self, ↓reduceIte, Int.reduceAdd, Int.reduceSub, Int.reduceMul, Int.reduceNeg, Int.reduceLT, Int.reduceLE, if_neg, nS, iZ_clampN, iZ_bit, iZ_one, iZ_and, iZ_or, iZ_ndn, iZ_div, z2, w2, q1]
      by_cases d : lo < V
      · rw [if_pos (hbi.mpr d), if_neg (by omega)]
      · rw [if_neg (fun q => d (hbi.mp q)), if_pos (by omega)]
  · rw [if_neg (blk_on hw6 ho), bP_f ho]
    rw [xfix_unf, sX12_isFree_149]
    simp (disch := omega) only [xk_none, xk_inl, xk_inr, xk_ite, xri_v, xrl_v, xrv_v, xb_z0, xb_z1, xb_b2, if_true, if_false, ite_true, ite_false, iZ_lit, iZ_m1, iZ_m99, iZ_m8, iZ_add, iZ_sub, iZ_mul, iZ_neg, nz0, nzi, iZ_lt, iZ_le, iZ_inj, b2_z, b2_o, ite_bPz, ite_bPo, xb_bP, iZ_xin, if_pos, ite_self, ↓reduceIte, Int.reduceAdd, Int.reduceSub, Int.reduceMul, Int.reduceNeg, Int.reduceLT, Int.reduceLE, if_neg, nS, iZ_clampN, iZ_bit, iZ_one, iZ_and, iZ_or, iZ_ndn]
theorem m_isFree {A : dA} {M : xM} {half rest n : Nat} {w : Nat} {x y z : Int} (hL : hLs A half 512 M n) (hN : mLn A rest 512 M) (hw6 : w < 6) (hx : -20 ≤ x ∧ x ≤ 20) (hy : -20 ≤ y ∧ y ≤ 20) (hz : -20 ≤ z ∧ z ≤ 20) : fX12_isFree [.inr (.inr (12, 0)), .inl (iZ (w)), .inl (iZ (x)), .inl (iZ (y)), .inl (iZ (z))] M = some (some (.inl (bP (fwS A half rest w x y z))), M) := by
  obtain ⟨l1, l2, l3, l4⟩ := hL
  have hl := xfor_all (sg := gX12_isFree) (st := fun i => (3, [some (.inr (.inr (12, 0))), some (.inl (iZ (w))), some (.inl (iZ (x))), some (.inl (iZ (y))), some (.inl (iZ (z))), some (.inl (iZ (i))), none, none, none, none, none, none, none], [], M)) (R := fun i => some (some (.inl (bP (∀ k, i ≤ k → k < n → ∀ c : Nat, c < 512 → xI M (153, 0) k = iZ c → ¬ blk A rest w (((c % 8 : Nat) : Int) + x) (((c / 8 % 8 : Nat) : Int) + y) (((c / 64 : Nat) : Int) + z)))), M)) (n := n) (fun i hi ih => by
    rw [all_from hi]
    rw [nS] at ih
    obtain ⟨c, c1, c2, c3⟩ := l3 i hi
    rw [fr_cell (half := half) hN rfl hw6 hi l2 hx hy hz c1 l1 c2, ih]
    by_cases e : blk A rest w (((c % 8 : Nat) : Int) + x) (((c / 8 % 8 : Nat) : Int) + y) (((c / 64 : Nat) : Int) + z)
    · rw [if_pos e, bP_f (fun q => q.1 c c1 c2 e)]
    · rw [if_neg e]
      refine rP ⟨fun q => ⟨fun c' y1 y2 => ?_, q⟩, fun q => q.2⟩
      rw [c2] at y2
      have : c = c' := by
        have := (iZ_inj (a := (c : Int)) (b := (c' : Int)) (by omega) (by omega)).mp y2
        omega
      rw [← this]; exact e) (by
    rw [xfix_unf, sX12_isFree_3]
    simp (disch := omega) only [xk_none, xk_inl, xk_inr, xk_ite, xri_v, xrl_v, xrv_v, xb_z0, xb_z1, xb_b2, if_true, if_false, ite_true, ite_false, iZ_lit, iZ_m1, iZ_m99, iZ_m8, iZ_add, iZ_sub, iZ_mul, iZ_neg, nz0, nzi, iZ_lt, iZ_le, iZ_inj, b2_z, b2_o, ite_bPz, ite_bPo, xb_bP, iZ_xin, if_pos, ite_self, ↓reduceIte, Int.reduceAdd, Int.reduceSub, Int.reduceMul, Int.reduceNeg, Int.reduceLT, Int.reduceLE, if_neg, nS, iZ_clampN, iZ_bit, iZ_one, iZ_and, iZ_or, iZ_ndn, l1]
    rw [bP_t (fun k k1 k2 => by omega)]) (i := 0) (by omega)
  show xfix gX12_isFree (0, [some (.inr (.inr (12, 0))), some (.inl (iZ (w))), some (.inl (iZ (x))), some (.inl (iZ (y))), some (.inl (iZ (z))), none, none, none, none, none, none, none, none], [], M) = _; rw [xfix_unf, sX12_isFree_0]
  simp (disch := omega) only [xk_none, xk_inl, xk_inr, xk_ite, xri_v, xrl_v, xrv_v, xb_z0, xb_z1, xb_b2, if_true, if_false, ite_true, ite_false, iZ_lit, iZ_m1, iZ_m99, iZ_m8, iZ_add, iZ_sub, iZ_mul, iZ_neg, nz0, nzi, iZ_lt, iZ_le, iZ_inj, b2_z, b2_o, ite_bPz, ite_bPo, xb_bP, iZ_xin, if_pos, ite_self, ↓reduceIte, Int.reduceAdd, Int.reduceSub, Int.reduceMul, Int.reduceNeg, Int.reduceLT, Int.reduceLE, if_neg]
  refine hl.trans (rP ⟨fun q c c1 c2 => ?_, fun q k _ k2 c c1 c2 => ?_⟩)
  · obtain ⟨k, k1, k2⟩ := l4 c c1 c2
    exact q k (by omega) k1 c c1 k2
  · obtain ⟨c', y1, y2, y3⟩ := l3 k k2
    rw [y2] at c2
    have : c' = c := by
      have := (iZ_inj (a := (c' : Int)) (b := (c : Int)) (by omega) (by omega)).mp c2
      omega
    rw [this] at y3
    exact q c c1 y3
def ouS (A : dA) (half rest : Nat) (x y z : Int) : Prop := ∃ w, w < 6 ∧ fwS A half rest w x y z
theorem m_isOut {A : dA} {M : xM} {half rest n : Nat} {x y z : Int} (hL : hLs A half 512 M n) (hN : mLn A rest 512 M) (hx : -20 ≤ x ∧ x ≤ 20) (hy : -20 ≤ y ∧ y ≤ 20) (hz : -20 ≤ z ∧ z ≤ 20) : fX12_isOut [.inr (.inr (12, 0)), .inl (iZ (x)), .inl (iZ (y)), .inl (iZ (z))] M = some (some (.inl (bP (ouS A half rest x y z))), M) := by
  have hl := xfor_all (sg := gX12_isOut) (st := fun i => (3, [some (.inr (.inr (12, 0))), some (.inl (iZ (x))), some (.inl (iZ (y))), some (.inl (iZ (z))), some (.inl (iZ (i)))], [], M)) (R := fun i => some (some (.inl (bP (∃ w, i ≤ w ∧ w < 6 ∧ fwS A half rest w x y z))), M)) (n := 6) (fun i hi ih => by
    rw [ex_from hi]
    rw [nS] at ih
    rw [xfix_unf, sX12_isOut_3]
    simp (disch := omega) only [xk_none, xk_inl, xk_inr, xk_ite, xri_v, xrl_v, xrv_v, xb_z0, xb_z1, xb_b2, if_true, if_false, ite_true, ite_false, iZ_lit, iZ_m1, iZ_m99, iZ_m8, iZ_add, iZ_sub, iZ_mul, iZ_neg, nz0, nzi, iZ_lt, iZ_le, iZ_inj, b2_z, b2_o, ite_bPz, ite_bPo, xb_bP, iZ_xin, if_pos, ite_self, ↓reduceIte, Int.reduceAdd, Int.reduceSub, Int.reduceMul, Int.reduceNeg, Int.reduceLT, Int.reduceLE, if_neg, nS, iZ_clampN, iZ_bit, iZ_one, iZ_and, iZ_or, iZ_ndn, m_isFree hL hN hi hx hy hz, ih]
    by_cases e : fwS A half rest i x y z
    · rw [if_pos e, bP_t (.inl e)]
    · rw [if_neg e]; exact rP ⟨.inr, fun q => q.elim (fun q => absurd q e) id⟩) (by
    rw [xfix_unf, sX12_isOut_3]
    simp (disch := omega) only [xk_none, xk_inl, xk_inr, xk_ite, xri_v, xrl_v, xrv_v, xb_z0, xb_z1, xb_b2, if_true, if_false, ite_true, ite_false, iZ_lit, iZ_m1, iZ_m99, iZ_m8, iZ_add, iZ_sub, iZ_mul, iZ_neg, nz0, nzi, iZ_lt, iZ_le, iZ_inj, b2_z, b2_o, ite_bPz, ite_bPo, xb_bP, iZ_xin, if_pos, ite_self, ↓reduceIte, Int.reduceAdd, Int.reduceSub, Int.reduceMul, Int.reduceNeg, Int.reduceLT, Int.reduceLE, if_neg]
    rw [bP_f (fun ⟨w, w1, w2, _⟩ => by omega)]) (i := 0) (by omega)
  show xfix gX12_isOut (0, [some (.inr (.inr (12, 0))), some (.inl (iZ (x))), some (.inl (iZ (y))), some (.inl (iZ (z))), none], [], M) = _; rw [xfix_unf, sX12_isOut_0]
  simp (disch := omega) only [xk_none, xk_inl, xk_inr, xk_ite, xri_v, xrl_v, xrv_v, xb_z0, xb_z1, xb_b2, if_true, if_false, ite_true, ite_false, iZ_lit, iZ_m1, iZ_m99, iZ_m8, iZ_add, iZ_sub, iZ_mul, iZ_neg, nz0, nzi, iZ_lt, iZ_le, iZ_inj, b2_z, b2_o, ite_bPz, ite_bPo, xb_bP, iZ_xin, if_pos, ite_self, ↓reduceIte, Int.reduceAdd, Int.reduceSub, Int.reduceMul, Int.reduceNeg, Int.reduceLT, Int.reduceLE, if_neg]
  exact hl.trans (rP ⟨fun ⟨w, _, w2, w3⟩ => ⟨w, w2, w3⟩, fun ⟨w, w2, w3⟩ => ⟨w, by omega, w2, w3⟩⟩)
