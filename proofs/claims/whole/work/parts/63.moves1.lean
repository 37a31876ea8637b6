/-! the reference: moves, the ground -/
/-- a place holds a cell of a set -/
def r3 (A : dA) (rest : Nat) (x y z : Int) : Prop := ∃ p : Nat, aat A x y z = p ∧ rest.testBit p = true
theorem r3_in {A : dA} {rest : Nat} {x y z : Int} (h : r3 A rest x y z) : (0 ≤ x ∧ x ≤ 7) ∧ (0 ≤ y ∧ y ≤ 7) ∧ (0 ≤ z ∧ z ≤ 7) := by
  obtain ⟨p, h1, _⟩ := h
  refine Classical.byContradiction fun hn => ?_
  unfold aat at h1
  rw [if_neg hn] at h1
  omega
theorem r3_c {A : dA} {rest : Nat} {x y z : Int} (h : (0 ≤ x ∧ x ≤ 7) ∧ (0 ≤ y ∧ y ≤ 7) ∧ (0 ≤ z ∧ z ≤ 7)) : r3 A rest x y z ↔ inH A rest (64 * z + 8 * y + x).toNat := by
  unfold r3 aat inH
  rw [if_pos h]
theorem r3_n {A : dA} {rest c : Nat} (hc : c < 512) : inH A rest c ↔ r3 A rest ((c % 8 : Nat) : Int) ((c / 8 % 8 : Nat) : Int) ((c / 64 : Nat) : Int) := by
  rw [r3_c (by omega), show (64 * ((c / 64 : Nat) : Int) + 8 * ((c / 8 % 8 : Nat) : Int) + ((c % 8 : Nat) : Int)).toNat = c by omega]
/-- a cell lies on a line, and where -/
def onl (k c : Nat) : Prop := if k < 64 then c / 8 = k else if k < 128 then 64 + c / 64 * 8 + c % 8 = k else 128 + c % 64 = k
def cof (k c : Nat) : Nat := if k < 64 then c % 8 else if k < 128 then c / 8 % 8 else c / 64
theorem cof_lt {k c : Nat} (hc : c < 512) : cof k c < 8 := by unfold cof; (repeat' split) <;> omega
/-- the bounds of a line's cells below i -/
def lbd (A : dA) (rest i k : Nat) (lo hi : Int) : Prop := (∀ c, c < i → inH A rest c → onl k c → lo ≤ cof k c ∧ (cof k c : Int) ≤ hi) ∧ (lo = 99 ∨ ∃ c, c < i ∧ inH A rest c ∧ onl k c ∧ (cof k c : Int) = lo) ∧ (hi = -99 ∨ ∃ c, c < i ∧ inH A rest c ∧ onl k c ∧ (cof k c : Int) = hi) ∧ (-99 ≤ lo ∧ lo ≤ 99) ∧ (-99 ≤ hi ∧ hi ≤ 99)
def imn (a b : Int) : Int := if b < a then b else a
def imz (a b : Int) : Int := if a < b then b else a
theorem lbd.no {A : dA} {rest i k : Nat} {lo hi : Int} (h : lbd A rest i k lo hi) (hn : ¬ (inH A rest i ∧ onl k i)) : lbd A rest (i + 1) k lo hi := by
  obtain ⟨a, b, c, d⟩ := h
  refine ⟨fun x x1 x2 x3 => a x (by
    by_cases e : x = i
    · subst e; exact absurd ⟨x2, x3⟩ hn
    · omega) x2 x3, b.imp id fun ⟨x, x1, x2⟩ => ⟨x, by omega, x2⟩, c.imp id fun ⟨x, x1, x2⟩ => ⟨x, by omega, x2⟩, d⟩
theorem lbd.is {A : dA} {rest i k : Nat} {lo hi : Int} (hi5 : i < 512) (h : lbd A rest i k lo hi) (h1 : inH A rest i) (h2 : onl k i) : lbd A rest (i + 1) k (imn lo (cof k i)) (imz hi (cof k i)) := by
  obtain ⟨a, b, c, d, e⟩ := h
  have hc := cof_lt (k := k) hi5
  unfold imn imz
  refine ⟨fun x x1 x2 x3 => ?_, ?_, ?_, ?_, ?_⟩
  · by_cases ex : x = i
    · subst ex
      constructor
      · split <;> omega
      · split <;> omega
    · have := a x (by omega) x2 x3
      constructor
      · split <;> omega
      · split <;> omega
  · split
    · exact .inr ⟨i, by omega, h1, h2, rfl⟩
    · exact b.imp id fun ⟨x, x1, x2⟩ => ⟨x, by omega, x2⟩
  · split
    · exact .inr ⟨i, by omega, h1, h2, rfl⟩
    · exact c.imp id fun ⟨x, x1, x2⟩ => ⟨x, by omega, x2⟩
  · split <;> omega
  · split <;> omega
theorem m_line {M : xM} {k : Nat} {v lo hi : Int} (hk : k < 192) (hv : 0 ≤ v ∧ v ≤ 10) (h1 : xI M (154, 0) k = iZ lo) (h2 : xI M (155, 0) k = iZ hi) (hlo : -99 ≤ lo ∧ lo ≤ 99) (hhi : -99 ≤ hi ∧ hi ≤ 99) : fX12_line [.inr (.inr (12, 0)), .inl (iZ (k)), .inl (iZ (v))] M = some (none, xpI (xpI M (154, 0) k (iZ (imn lo v))) (155, 0) k (iZ (imz hi v))) := by
  have e25 : ∀ l : Int, xfix gX12_line (25, [some (.inr (.inr (12, 0))), some (.inl (iZ (k))), some (.inl (iZ (v)))], [.inl (iZ (l)), .inl (iZ (k)), .inr (.inr (154, 0))], M) = some (none, xpI (xpI M (154, 0) k (iZ l)) (155, 0) k (iZ (imz hi v))) := fun l => by
    unfold imz
    rw [xfix_unf, sX12_line_25]
    simp (disch := omega) only [xk_none, xk_inl, xk_inr, xk_ite, xri_v, xrl_v, xrv_v, xb_z0, xb_z1, xb_b2, if_true, if_false, ite_true, ite_false, iZ_lit, iZ_m1, iZ_m99, iZ_m8, iZ_add, iZ_sub, iZ_mul, iZ_neg, nz0, nzi, iZ_lt, iZ_le, iZ_inj, b2_z, b2_o, ite_bPz, ite_bPo, xb_bP, iZ_xin, if_pos, ite_self, ↓reduceIte, Int.reduceAdd, Int.reduceSub, Int.reduceMul, Int.reduceNeg, Int.reduceLT, Int.reduceLE, if_neg, nS, iZ_clampN, iZ_bit, iZ_one, iZ_and, iZ_or, iZ_ndn, xI_pI_ne (show ((155, 0) : xR) ≠ (154, 0) by decide), h2]
    by_cases e : hi < v
    · rw [if_pos e, if_neg (by omega)]
    · rw [if_neg e, if_pos (by omega)]
  unfold imn
  show xfix gX12_line (0, [some (.inr (.inr (12, 0))), some (.inl (iZ (k))), some (.inl (iZ (v)))], [], M) = _; rw [xfix_unf, sX12_line_0]
  simp (disch := omega) only [xk_none, xk_inl, xk_inr, xk_ite, xri_v, xrl_v, xrv_v, xb_z0, xb_z1, xb_b2, if_true, if_false, ite_true, ite_false, iZ_lit, iZ_m1, iZ_m99, iZ_m8, iZ_add, iZ_sub, iZ_mul, iZ_neg, nz0, nzi, iZ_lt, iZ_le, iZ_inj, b2_z, b2_o, ite_bPz, ite_bPo, xb_bP, iZ_xin, if_pos, ite_self, ↓reduceIte, Int.reduceAdd, Int.reduceSub, Int.reduceMul, Int.reduceNeg, Int.reduceLT, Int.reduceLE, if_neg, nS, iZ_clampN, iZ_bit, iZ_one, iZ_and, iZ_or, iZ_ndn, h1, e25]
  by_cases e : v < lo
  · rw [if_pos e, if_neg (by omega)]
  · rw [if_neg e, if_pos (by omega)]
/-- the list of the half's cells below i -/
def hLs (A : dA) (half i : Nat) (M : xM) (n : Nat) : Prop := xI M (12, 0) 56 = iZ n ∧ n ≤ i ∧ (∀ k, k < n → ∃ c, c < i ∧ xI M (153, 0) k = iZ (c : Nat) ∧ inH A half c) ∧ ∀ c, c < i → inH A half c → ∃ k, k < n ∧ xI M (153, 0) k = iZ (c : Nat)
def mLn (A : dA) (rest i : Nat) (M : xM) : Prop := ∀ k, k < 192 → ∃ lo hi : Int, xI M (154, 0) k = iZ lo ∧ xI M (155, 0) k = iZ hi ∧ lbd A rest i k lo hi
def mvR (r : xR) (j : Nat) : Prop := r = (151, 0) ∨ r = (152, 0) ∨ r = (153, 0) ∨ r = (154, 0) ∨ r = (155, 0) ∨ (r = (12, 0) ∧ j = 56)
theorem mA.mv {M M' : xM} {A : dA} (h : mA M A) (hs : xSm mvR M M') : mA M' A := h.sm hs (by unfold mvR; decide) (by unfold mvR; decide) (fun r hr j => by
  simp only [List.mem_cons, List.mem_nil_iff, or_false] at hr
  rcases hr with e | e | e | e | e | e | e | e <;> subst e <;> simp [mvR])
theorem z64r (i : Nat) : (i : Int) - (i : Int) / 64 * 64 = ((i % 64 : Nat) : Int) := by omega
theorem ly_lines {A : dA} {rest c : Nat} {M : xM} (hc : c < 512) (hin : inH A rest c) (h : mLn A rest c M) : ∃ M', xSm (fun r _ => r = (154, 0) ∨ r = (155, 0)) M M' ∧ mLn A rest (c + 1) M' ∧ ∀ k : xM → Option xX, xrv (fX12_line [.inr (.inr (12, 0)), .inl (iZ ((c / 8 : Nat))), .inl (iZ ((c % 8 : Nat)))] M) (fun M1 => xrv (fX12_line [.inr (.inr (12, 0)), .inl (iZ ((64 + c / 64 * 8 + c % 8 : Nat))), .inl (iZ ((c / 8 % 8 : Nat)))] M1) (fun M2 => xrv (fX12_line [.inr (.inr (12, 0)), .inl (iZ ((128 + c % 64 : Nat))), .inl (iZ ((c / 64 : Nat)))] M2) k)) = k M' := by
  obtain ⟨l1, h1, a1, a2, a3⟩ := h (c / 8) (by omega)
  obtain ⟨l2, h2, b1, b2, b3⟩ := h (64 + c / 64 * 8 + c % 8) (by omega)
  obtain ⟨l3, h3, c1, c2, c3⟩ := h (128 + c % 64) (by omega)
  have q1 := m_line (M := M) (k := c / 8) (v := ((c % 8 : Nat) : Int)) (by omega) (by omega) a1 a2 a3.2.2.2.1 a3.2.2.2.2
  have q2 := m_line (M := xpI (xpI M (154, 0) (c / 8) (iZ (imn l1 ((c % 8 : Nat) : Int)))) (155, 0) (c / 8) (iZ (imz h1 ((c % 8 : Nat) : Int)))) (k := 64 + c / 64 * 8 + c % 8) (v := ((c / 8 % 8 : Nat) : Int)) (lo := l2) (hi := h2) (by omega) (by omega) (by rw [xI_pI_ne (by decide), xI_pI, if_neg (fun z => by omega)]; exact b1) (by rw [xI_pI, if_neg (fun z => by omega), xI_pI_ne (by decide)]; exact b2) b3.2.2.2.1 b3.2.2.2.2
  have q3 := m_line (M := xpI (xpI (xpI (xpI M (154, 0) (c / 8) (iZ (imn l1 ((c % 8 : Nat) : Int)))) (155, 0) (c / 8) (iZ (imz h1 ((c % 8 : Nat) : Int)))) (154, 0) (64 + c / 64 * 8 + c % 8) (iZ (imn l2 ((c / 8 % 8 : Nat) : Int)))) (155, 0) (64 + c / 64 * 8 + c % 8) (iZ (imz h2 ((c / 8 % 8 : Nat) : Int)))) (k := 128 + c % 64) (v := ((c / 64 : Nat) : Int)) (lo := l3) (hi := h3) (by omega) (by omega) (by rw [xI_pI_ne (by decide), xI_pI, if_neg (fun z => by omega), xI_pI_ne (by decide), xI_pI, if_neg (fun z => by omega)]; exact c1) (by rw [xI_pI, if_neg (fun z => by omega), xI_pI_ne (by decide), xI_pI, if_neg (fun z => by omega), xI_pI_ne (by decide)]; exact c2) c3.2.2.2.1 c3.2.2.2.2
  refine ⟨_, ((((((xSm.rf.pI (.inl rfl)).pI (.inr rfl)).pI (.inl rfl)).pI (.inr rfl)).pI (.inl rfl)).pI (.inr rfl)), fun k hk => ?_, fun k => by rw [q1, xrv_v, q2, xrv_v, q3, xrv_v]⟩
  obtain ⟨lo, hi, d1, d2, d3⟩ := h k hk
  by_cases e1 : k = c / 8
  · subst e1
    have o : onl (c / 8) c := by unfold onl; rw [if_pos (by omega)]
    have cf : cof (c / 8) c = c % 8 := by unfold cof; rw [if_pos (by omega)]
    have := a3.is hc hin o
    rw [cf] at this
    refine ⟨_, _, ?_, ?_, this⟩
    · rw [xI_pI_ne (by decide), xI_pI, if_neg (fun z => by omega), xI_pI_ne (by decide), xI_pI, if_neg (fun z => by omega), xI_pI_ne (by decide), xI_pI, if_pos ⟨rfl, rfl⟩]
    · rw [xI_pI, if_neg (fun z => by omega), xI_pI_ne (by decide), xI_pI, if_neg (fun z => by omega), xI_pI_ne (by decide), xI_pI, if_pos ⟨rfl, rfl⟩]
  · by_cases e2 : k = 64 + c / 64 * 8 + c % 8
    · subst e2
      have o : onl (64 + c / 64 * 8 + c % 8) c := by unfold onl; rw [if_neg (by omega), if_pos (by omega)]
      have cf : cof (64 + c / 64 * 8 + c % 8) c = c / 8 % 8 := by unfold cof; rw [if_neg (by omega), if_pos (by omega)]
      have := b3.is hc hin o
      rw [cf] at this
      refine ⟨_, _, ?_, ?_, this⟩
      · rw [xI_pI_ne (by decide), xI_pI, if_neg (fun z => by omega), xI_pI_ne (by decide), xI_pI, if_pos ⟨rfl, rfl⟩]
      · rw [xI_pI, if_neg (fun z => by omega), xI_pI_ne (by decide), xI_pI, if_pos ⟨rfl, rfl⟩]
    · by_cases e3 : k = 128 + c % 64
      · subst e3
        have o : onl (128 + c % 64) c := by unfold onl; rw [if_neg (by omega), if_neg (by omega)]
        have cf : cof (128 + c % 64) c = c / 64 := by unfold cof; rw [if_neg (by omega), if_neg (by omega)]
        have := c3.is hc hin o
        rw [cf] at this
        refine ⟨_, _, ?_, ?_, this⟩
        · rw [xI_pI_ne (by decide), xI_pI, if_pos ⟨rfl, rfl⟩]
        · rw [xI_pI, if_pos ⟨rfl, rfl⟩]
      · refine ⟨lo, hi, ?_, ?_, d3.no fun z => ?_⟩
        · rw [xI_pI_ne (by decide), xI_pI, if_neg (fun z => e3 z.2), xI_pI_ne (by decide), xI_pI, if_neg (fun z => e2 z.2), xI_pI_ne (by decide), xI_pI, if_neg (fun z => e1 z.2)]; exact d1
        · rw [xI_pI, if_neg (fun z => e3 z.2), xI_pI_ne (by decide), xI_pI, if_neg (fun z => e2 z.2), xI_pI_ne (by decide), xI_pI, if_neg (fun z => e1 z.2), xI_pI_ne (by decide)]; exact d2
        · have := z.2
          unfold onl at this
          split at this
          · omega
          · split at this <;> omega
theorem m_lays {A : dA} {half rest : Nat} {M : xM} (h : mA M A) (h1 : half < 512) (h2 : rest < 512) : ∃ M' n, fX12_lays [.inr (.inr (12, 0)), .inl (iZ (rest)), .inl (iZ (half))] M = some (none, M') ∧ xSm mvR M M' ∧ hLs A half 512 M' n ∧ mLn A rest 512 M' := by
  have hP := h.ok.P
  have s0 : xSm mvR M (xpI M (12, 0) 56 (iZ 0)) := xSm.rf.pI (.inr (.inr (.inr (.inr (.inr ⟨rfl, rfl⟩)))))
  obtain ⟨M1, a1, a2, a3⟩ := xfor_M (sg := gX12_lays) (st := fun k M => (7, [some (.inr (.inr (12, 0))), some (.inl (iZ (rest))), some (.inl (iZ (half))), some (.inl (iZ (k))), none], [], M)) (I := fun k N => xSame (fun r => r = (154, 0) ∨ r = (155, 0)) (xpI M (12, 0) 56 (iZ 0)) N ∧ ∀ j, j < k → xI N (154, 0) j = iZ 99 ∧ xI N (155, 0) j = iZ (-99)) (n := 192) (fun k N hk hN => by
    refine ⟨xpI (xpI N (154, 0) k (iZ 99)) (155, 0) k (iZ (-99)), ?_, (hN.1.pI (.inl rfl)).pI (.inr rfl), fun j hj => ?_⟩
    · rw [xfix_unf, sX12_lays_7]
      simp (disch := omega) only [xk_none, xk_inl, xk_inr, xk_ite, xri_v, xrl_v, xrv_v, xb_z0, xb_z1, xb_b2, if_true, if_false, ite_true, ite_false, iZ_lit, iZ_m1, iZ_m99, iZ_m8, iZ_add, iZ_sub, iZ_mul, iZ_neg, nz0, nzi, iZ_lt, iZ_le, iZ_inj, b2_z, b2_o, ite_bPz, ite_bPo, xb_bP, iZ_xin, if_pos, ite_self, ↓reduceIte, Int.reduceAdd, Int.reduceSub, Int.reduceMul, Int.reduceNeg, Int.reduceLT, Int.reduceLE, if_neg, nS, iZ_clampN, iZ_bit, iZ_one, iZ_and, iZ_or, iZ_ndn]
    · rw [xI_pI_ne (by decide), xI_pI, xI_pI]
      by_cases e : j = k
      · rw [if_pos ⟨rfl, e⟩, if_pos ⟨rfl, e⟩]; exact ⟨rfl, rfl⟩
      · rw [if_neg (fun z => e z.2), if_neg (fun z => e z.2), xI_pI_ne (by decide)]; exact hN.2 j (by omega)) (a := 0) (M := xpI M (12, 0) 56 (iZ 0)) (by omega) ⟨xSame.rf, fun j hj => by omega⟩
  have s1 : xSm mvR M M1 := s0.tr (a2.sm.wk fun r j z => z.elim (fun z => .inr (.inr (.inr (.inl z)))) (fun z => .inr (.inr (.inr (.inr (.inl z))))))
  obtain ⟨⟨M2, n⟩, b1, b2, b3, b4⟩ := xfor_S (σ := xM × Nat) (sg := gX12_lays) (st := fun k x => (38, [some (.inr (.inr (12, 0))), some (.inl (iZ (rest))), some (.inl (iZ (half))), some (.inl (iZ (k))), none], [], x.1)) (I := fun k x => xSm mvR M x.1 ∧ hLs A half k x.1 x.2 ∧ mLn A rest k x.1) (n := 512) (fun c x hc hx => by
    obtain ⟨N, n⟩ := x
    obtain ⟨n1, ⟨n2, n3, n4, n5⟩, n6⟩ := hx
    dsimp only at n1 n2 n3 n4 n5 n6 ⊢
    have hA := h.mv n1
    have hC := hA.ok.C hc
    -- first the list
    obtain ⟨N2, n', g1, g2, g3, g4⟩ : ∃ N2 n', xfix gX12_lays (38, [some (.inr (.inr (12, 0))), some (.inl (iZ (rest))), some (.inl (iZ (half))), some (.inl (iZ (c))), none], [], N) = xfix gX12_lays (89, [some (.inr (.inr (12, 0))), some (.inl (iZ (rest))), some (.inl (iZ (half))), some (.inl (iZ (c))), some (.inl (iZ ((aC A c))))], [], N2) ∧ xSm mvR M N2 ∧ hLs A half (c + 1) N2 n' ∧ mLn A rest c N2 := by
      by_cases e : inH A half c
      · obtain ⟨p, p1, p2⟩ := e
        have f0 : xI (xpI N (153, 0) n (iZ c)) (12, 0) 56 = iZ n := by rw [xI_pI_ne (by decide)]; exact n2
        refine ⟨xpI (xpI N (153, 0) n (iZ c)) (12, 0) 56 (iZ ((n : Int) + 1)), n + 1, ?_, (n1.pI (.inr (.inr (.inl rfl)))).pI (.inr (.inr (.inr (.inr (.inr ⟨rfl, rfl⟩))))), ⟨by rw [xI_pI, if_pos ⟨rfl, rfl⟩]; rfl, by omega, fun k hk => ?_, fun c' hc' hin => ?_⟩, fun k hk => ?_⟩
        · rw [p1]
          rw [xfix_unf, sX12_lays_38]
          simp (disch := omega) only [xk_none, xk_inl, xk_inr, xk_ite, xri_v, xrl_v, xrv_v, xb_z0, xb_z1, xb_b2, if_true, if_false, ite_true, ite_false, iZ_lit, iZ_m1, iZ_m99, iZ_m8, iZ_add, iZ_sub, iZ_mul, iZ_neg, nz0, nzi, iZ_lt, iZ_le, iZ_inj, b2_z, b2_o, ite_bPz, ite_bPo, xb_bP, iZ_xin, if_pos, ite_self, ↓reduceIte, Int.reduceAdd, Int.reduceSub, Int.reduceMul, Int.reduceNeg, Int.reduceLT, Int.reduceLE, if_neg, nS, iZ_clampN, iZ_bit, iZ_one, iZ_and, iZ_or, iZ_ndn, hA.C hc, p1, if_pos p2, n2, f0]
        · rw [xI_pI_ne (by decide), xI_pI]
          by_cases ek : k = n
          · rw [if_pos ⟨rfl, ek⟩]; exact ⟨c, by omega, rfl, p, p1, p2⟩
          · rw [if_neg (fun z => ek z.2)]
            obtain ⟨c', x1, x2⟩ := n4 k (by omega)
            exact ⟨c', by omega, x2⟩
        · by_cases ec : c' = c
          · subst ec
            exact ⟨n, by omega, by rw [xI_pI_ne (by decide), xI_pI, if_pos ⟨rfl, rfl⟩]⟩
          · obtain ⟨k, k1, k2⟩ := n5 c' (by omega) hin
            exact ⟨k, by omega, by rw [xI_pI_ne (by decide), xI_pI, if_neg (fun z => by omega)]; exact k2⟩
        · obtain ⟨lo, hi, x1, x2, x3⟩ := n6 k hk
          exact ⟨lo, hi, by rw [xI_pI_ne (by decide), xI_pI_ne (by decide)]; exact x1, by rw [xI_pI_ne (by decide), xI_pI_ne (by decide)]; exact x2, x3⟩
      · refine ⟨N, n, ?_, n1, ⟨n2, by omega, fun k hk => ?_, fun c' hc' hin => n5 c' (by
          by_cases ec : c' = c
          · subst ec; exact absurd hin e
          · omega) hin⟩, n6⟩
        · rw [xfix_unf, sX12_lays_38]
          by_cases e2 : aC A c = -1
          · simp (disch := omega) only [xk_none, xk_inl, xk_inr, xk_ite, xri_v, xrl_v, xrv_v, xb_z0, xb_z1, xb_b2, if_true, if_false, ite_true, ite_false, iZ_lit, iZ_m1, iZ_m99, iZ_m8, iZ_add, iZ_sub, iZ_mul, iZ_neg, nz0, nzi, iZ_lt, iZ_le, iZ_inj, b2_z, b2_o, ite_bPz, ite_bPo, xb_bP, iZ_xin, if_pos, ite_self, ↓reduceIte, Int.reduceAdd, Int.reduceSub, Int.reduceMul, Int.reduceNeg, Int.reduceLT, Int.reduceLE, if_neg, nS, iZ_clampN, iZ_bit, iZ_one, iZ_and, iZ_or, iZ_ndn, hA.C hc]
          · obtain ⟨p, hp⟩ : ∃ p : Nat, aC A c = p := ⟨(aC A c).toNat, by omega⟩
            rw [hp]
            simp (disch := omega) only [xk_none, xk_inl, xk_inr, xk_ite, xri_v, xrl_v, xrv_v, xb_z0, xb_z1, xb_b2, if_true, if_false, ite_true, ite_false, iZ_lit, iZ_m1, iZ_m99, iZ_m8, iZ_add, iZ_sub, iZ_mul, iZ_neg, nz0, nzi, iZ_lt, iZ_le, iZ_inj, b2_z, b2_o, ite_bPz, ite_bPo, xb_bP, iZ_xin, if_pos, ite_self, ↓reduceIte, Int.reduceAdd, Int.reduceSub, Int.reduceMul, Int.reduceNeg, Int.reduceLT, Int.reduceLE, if_neg, nS, iZ_clampN, iZ_bit, iZ_one, iZ_and, iZ_or, iZ_ndn, hA.C hc, hp, if_neg (fun z => e ((inH_iff hp).mpr z))]
        · obtain ⟨c', x1, x2⟩ := n4 k hk
          exact ⟨c', by omega, x2⟩
    -- then the lines
    by_cases e : inH A rest c
    · have e' := e
      obtain ⟨p, p1, p2⟩ := e'
      obtain ⟨N3, k1, k2, k3⟩ := ly_lines hc e g4
      refine ⟨(N3, n'), ?_, g2.tr (k1.wk fun r j z => z.elim (fun z => .inr (.inr (.inr (.inl z)))) (fun z => .inr (.inr (.inr (.inr (.inl z)))))), ?_, k2⟩
      · have ez : (64 + ((c / 64 : Nat) : Int) * 8 + ((c % 8 : Nat) : Int)) = ((64 + c / 64 * 8 + c % 8 : Nat) : Int) := by omega
        have ez2 : (128 + ((c % 64 : Nat) : Int)) = ((128 + c % 64 : Nat) : Int) := by omega
        have ez3 : (c : Int) / 8 = ((c / 8 : Nat) : Int) := by omega
        have q88 : ((c / 8 : Nat) : Int) - ((c / 8 : Nat) : Int) / 8 * 8 = ((c / 8 % 8 : Nat) : Int) := by omega
        have q8 : (c : Int) - ((c / 8 : Nat) : Int) * 8 = ((c % 8 : Nat) : Int) := by omega
        have q64 : (c : Int) - ((c / 64 : Nat) : Int) * 64 = ((c % 64 : Nat) : Int) := by omega
        have key := k3 (fun M3 => some (.inr (38, [some (.inr (.inr (12, 0))), some (.inl (iZ (rest))), some (.inl (iZ (half))), some (.inl (iZ (((c : Int) + 1)))), none], [], M3)))
        rw [g1, p1]
        rw [xfix_unf, sX12_lays_89]
        simp (disch := omega) only [xk_none, xk_inl, xk_inr, xk_ite, xri_v, xrl_v, xrv_v, xb_z0, xb_z1, xb_b2, if_true, if_false, ite_true, ite_false, iZ_lit, iZ_m1, iZ_m99, iZ_m8, iZ_add, iZ_sub, iZ_mul, iZ_neg, nz0, nzi, iZ_lt, iZ_le, iZ_inj, b2_z, b2_o, ite_bPz, ite_bPo, xb_bP, iZ_xin, if_pos, ite_self, ↓reduceIte, Int.reduceAdd, Int.reduceSub, Int.reduceMul, Int.reduceNeg, Int.reduceLT, Int.reduceLE, if_neg, iZ_bit, if_pos p2, iZ_div, Int.ediv_nonneg, ez3, z64, q8, q88, q64, ez, ez2]
        rw [key]
        rfl
      · obtain ⟨x1, x2, x3, x4⟩ := g3
        have r5 : ∀ j, xI N3 (153, 0) j = xI N2 (153, 0) j := fun j => (k1 (153, 0) j (by simp)).1
        refine ⟨by rw [(k1 (12, 0) 56 (by decide)).1]; exact x1, x2, fun k hk => by rw [r5]; exact x3 k hk, fun c' y1 y2 => ?_⟩
        obtain ⟨k, z1, z2⟩ := x4 c' y1 y2
        exact ⟨k, z1, by rw [r5]; exact z2⟩
    · refine ⟨(N2, n'), ?_, g2, g3, fun k hk => ?_⟩
      · rw [g1]
        rw [xfix_unf, sX12_lays_89]
        by_cases e2 : aC A c = -1
        · simp (disch := omega) only [xk_none, xk_inl, xk_inr, xk_ite, xri_v, xrl_v, xrv_v, xb_z0, xb_z1, xb_b2, if_true, if_false, ite_true, ite_false, iZ_lit, iZ_m1, iZ_m99, iZ_m8, iZ_add, iZ_sub, iZ_mul, iZ_neg, nz0, nzi, iZ_lt, iZ_le, iZ_inj, b2_z, b2_o, ite_bPz, ite_bPo, xb_bP, iZ_xin, if_pos, ite_self, ↓reduceIte, Int.reduceAdd, Int.reduceSub, Int.reduceMul, Int.reduceNeg, Int.reduceLT, Int.reduceLE, if_neg, nS, iZ_clampN, iZ_bit, iZ_one, iZ_and, iZ_or, iZ_ndn, e2]
        · obtain ⟨p, hp⟩ : ∃ p : Nat, aC A c = p := ⟨(aC A c).toNat, by omega⟩
          rw [hp]
          simp (disch := omega) only [xk_none, xk_inl, xk_inr, xk_ite, xri_v, xrl_v, xrv_v, xb_z0, xb_z1, xb_b2, if_true, if_false, ite_true, ite_false, iZ_lit, iZ_m1, iZ_m99, iZ_m8, iZ_add, iZ_sub, iZ_mul, iZ_neg, nz0, nzi, iZ_lt, iZ_le, iZ_inj, b2_z, b2_o, ite_bPz, ite_bPo, xb_bP, iZ_xin, if_pos, ite_self, ↓reduceIte, Int.reduceAdd, Int.reduceSub, Int.reduceMul, Int.reduceNeg, Int.reduceLT, Int.reduceLE, if_neg, nS, iZ_clampN, iZ_bit, iZ_one, iZ_and, iZ_or, iZ_ndn, if_neg (fun z => e ((inH_iff hp).mpr z))]
      · obtain ⟨lo, hi, x1, x2, x3⟩ := g4 k hk
        exact ⟨lo, hi, x1, x2, x3.no fun z => e z.1⟩) (a := 0) (x := (M1, 0)) (by omega) ⟨s1, ⟨by
      show xI M1 (12, 0) 56 = iZ 0
      rw [(a2 (12, 0) (by decide)).1, xI_pI, if_pos ⟨rfl, rfl⟩], Nat.le_refl _, fun k hk => by omega, fun c hc => by omega⟩, fun k hk => ⟨99, -99, (a3 k hk).1, (a3 k hk).2, fun c hc => by omega, .inl rfl, .inl rfl, by omega, by omega⟩⟩
  refine ⟨M2, n, ?_, b2, b3, b4⟩
  show xfix gX12_lays (0, [some (.inr (.inr (12, 0))), some (.inl (iZ (rest))), some (.inl (iZ (half))), none, none], [], M) = _; rw [xfix_unf, sX12_lays_0]
  simp (disch := omega) only [xk_none, xk_inl, xk_inr, xk_ite, xri_v, xrl_v, xrv_v, xb_z0, xb_z1, xb_b2, if_true, if_false, ite_true, ite_false, iZ_lit, iZ_m1, iZ_m99, iZ_m8, iZ_add, iZ_sub, iZ_mul, iZ_neg, nz0, nzi, iZ_lt, iZ_le, iZ_inj, b2_z, b2_o, ite_bPz, ite_bPo, xb_bP, iZ_xin, if_pos, ite_self, ↓reduceIte, Int.reduceAdd, Int.reduceSub, Int.reduceMul, Int.reduceNeg, Int.reduceLT, Int.reduceLE, if_neg]
  refine a1.trans (Eq.trans ?_ (b1.trans ?_))
  · rw [xfix_unf, sX12_lays_7]
    have e192 : ((192 : Nat) : Int) = 192 := rfl
    simp (disch := omega) only [xk_none, xk_inl, xk_inr, xk_ite, xri_v, xrl_v, xrv_v, xb_z0, xb_z1, xb_b2, if_true, if_false, ite_true, ite_false, iZ_lit, iZ_m1, iZ_m99, iZ_m8, iZ_add, iZ_sub, iZ_mul, iZ_neg, nz0, nzi, iZ_lt, iZ_le, iZ_inj, b2_z, b2_o, ite_bPz, ite_bPo, xb_bP, iZ_xin, if_pos, ite_self, ↓reduceIte, Int.reduceAdd, Int.reduceSub, Int.reduceMul, Int.reduceNeg, Int.reduceLT, Int.reduceLE, if_neg, e192]
    rfl
  · rw [xfix_unf, sX12_lays_38]
    have e512 : ((512 : Nat) : Int) = 512 := rfl
    simp (disch := omega) only [xk_none, xk_inl, xk_inr, xk_ite, xri_v, xrl_v, xrv_v, xb_z0, xb_z1, xb_b2, if_true, if_false, ite_true, ite_false, iZ_lit, iZ_m1, iZ_m99, iZ_m8, iZ_add, iZ_sub, iZ_mul, iZ_neg, nz0, nzi, iZ_lt, iZ_le, iZ_inj, b2_z, b2_o, ite_bPz, ite_bPo, xb_bP, iZ_xin, if_pos, ite_self, ↓reduceIte, Int.reduceAdd, Int.reduceSub, Int.reduceMul, Int.reduceNeg, Int.reduceLT, Int.reduceLE, if_neg, e512]
