/-! the reference: rings -/
abbrev q6 (r : xR) : Prop := r = (146, 0)
theorem rcW_1 {A : dA} {heap w p x : Nat} (h1 : heap.testBit x = true) (h2 : p ≤ x) : rcW A heap w p 1 x ↔ bw A w x p := ⟨fun ⟨_, q, a, b⟩ => by rw [← show q = p from b]; exact a, fun h => ⟨⟨h1, h2⟩, p, h, rfl⟩⟩
theorem cls_108 {N : xM} {rc : xF} {n L heap w q last : Nat} {r : Nat → Nat} (hn : n ≤ 9) (hq : q < 9) (ht : ∀ i, i < n → xI N (146, 0) i = iZ (r i)) (hr : ∀ i, i < n → r i < 9) {b : Prop} : xfix (gX12_closes rc) (108, [some (.inr (.inr (12, 0))), some (.inl (iZ (n))), some (.inl (iZ (L))), some (.inl (iZ (heap))), some (.inl (iZ (w))), some (.inl (iZ (last))), some (.inl (iZ (q))), some (.inl (bP (b))), some (.inl (iZ ((0 : Nat))))], [], N) = xfix (gX12_closes rc) (108, [some (.inr (.inr (12, 0))), some (.inl (iZ (n))), some (.inl (iZ (L))), some (.inl (iZ (heap))), some (.inl (iZ (w))), some (.inl (iZ (last))), some (.inl (iZ (q))), some (.inl (bP ((b ∧ ∀ i, i < n → r i ≠ q)))), some (.inl (iZ (n)))], [], N) := by
  have hl := xfor_F (sg := gX12_closes rc) (fun k => (108, [some (.inr (.inr (12, 0))), some (.inl (iZ (n))), some (.inl (iZ (L))), some (.inl (iZ (heap))), some (.inl (iZ (w))), some (.inl (iZ (last))), some (.inl (iZ (q))), some (.inl (bP ((b ∧ ∀ i, i < k → r i ≠ q)))), some (.inl (iZ (k)))], [], N)) (a := 0) (n := n) (by omega) (fun k _ hk => by
    have hrk := hr k hk
    rw [xfix_unf, sX12_closes_108]
    simp (disch := omega) only [xk_none, xk_inl, xk_inr, xk_ite, xri_v, xrl_v, xrv_v, xb_z0, xb_z1, xb_b2, if_true, if_false, ite_true, ite_false, iZ_lit, iZ_m1, iZ_m99, iZ_m8, iZ_add, iZ_sub, iZ_mul, iZ_neg, nz0, nzi, iZ_lt, iZ_le, iZ_inj, b2_z, b2_o, ite_bPz, ite_bPo, xb_bP, iZ_xin, if_pos, ite_self, ↓reduceIte, Int.reduceAdd, Int.reduceSub, Int.reduceMul, Int.reduceNeg, Int.reduceLT, Int.reduceLE, if_neg, nS, iZ_clampN, iZ_bit, iZ_one, iZ_and, iZ_or, iZ_ndn, ht k hk]
    by_cases c1 : b ∧ ∀ i, i < k → r i ≠ q
    · rw [if_pos c1]
      by_cases c2 : r k = q
      · rw [if_pos c2, bP_f (c := b ∧ ∀ i, i < k + 1 → r i ≠ q) (fun z => z.2 k (by omega) c2)]
      · rw [if_neg c2, bP_t (c := b ∧ ∀ i, i < k + 1 → r i ≠ q) ⟨c1.1, fun i hi => by
          by_cases e : i = k
          · rw [e]; exact c2
          · exact c1.2 i (by omega)⟩]
    · rw [if_neg c1, bP_f (c := b ∧ ∀ i, i < k + 1 → r i ≠ q) (fun z => c1 ⟨z.1, fun i hi => z.2 i (by omega)⟩)])
  rw [bP_c (show (b ∧ ∀ i, i < 0 → r i ≠ q) ↔ b from ⟨fun z => z.1, fun z => ⟨z, fun i hi => by omega⟩⟩)] at hl
  exact hl
theorem m_closes {A : dA} {heap w p L : Nat} (hw : w < 6) (hL : L ≤ 9) (hS : noS A heap w L) (hh : heap < 2 ^ aP A) : ∀ (m n k : Nat) (M : xM) (r : Nat → Nat), n + m = L → 1 ≤ n → m < k → mA M A → mB M (barS A) → (∀ i, i < n → xI M (146, 0) i = iZ (r i)) → r 0 = p → (∀ i, i < n → heap.testBit (r i) = true ∧ p ≤ r i) → (∀ i, i + 1 < n → bw A w (r i) (r (i + 1))) →
    ∃ M', hX12_closes k [.inr (.inr (12, 0)), .inl (iZ n), .inl (iZ L), .inl (iZ heap), .inl (iZ w)] M = some (some (.inl (bP (rcW A heap w p (m + 1) (r (n - 1))))), M') ∧ xSm (fun rr j => rr = (146, 0) ∧ n ≤ j) M M' ∧ (rcW A heap w p (m + 1) (r (n - 1)) → ∀ j, j < m → xI M' (146, 0) (n + j) = iZ (gct A heap w p L n (r (n - 1)) (j + 1))) := by
  intro m
  induction m with
  | zero =>
    intro n k M r h1 h2 h3 hA hB ht h0 hr hb
    obtain ⟨k, rfl⟩ : ∃ k', k = k' + 1 := ⟨k - 1, by omega⟩
    have hP := hA.ok.P
    have hbit : ∀ i, i < n → r i < aP A := fun i hi => Nat.lt_of_not_le fun z => by
      have := (hr i hi).1
      rw [Nat.testBit_lt_two_pow (Nat.lt_of_lt_of_le hh (Nat.pow_le_pow_right (by decide) z))] at this
      cases this
    have b1 := hbit (n - 1) (by omega)
    have b0 := hbit 0 (by omega)
    have f1 := ht (n - 1) (by omega)
    have f0 := ht 0 (by omega)
    have hr1 := hr (n - 1) (by omega)
    refine ⟨M, ?_, xSm.rf, fun _ j hj => by omega⟩
    rw [bP_c (rcW_1 hr1.1 hr1.2), ← h0]
    show xfix (gX12_closes (hX12_closes k)) (0, [some (.inr (.inr (12, 0))), some (.inl (iZ n)), some (.inl (iZ L)), some (.inl (iZ heap)), some (.inl (iZ w)), none, none, none, none], [], M) = _
    have e1 : Int32.toNatClampNeg (iZ ((n : Int) - 1)) = n - 1 := by rw [iZ_clamp (by omega)]; omega
    have e2 : Int32.toNatClampNeg (iZ (6 * (r (n - 1) : Int) + w)) = 6 * r (n - 1) + w := by rw [iZ_clamp (by omega)]; omega
    have f2 := hB.1 (6 * r (n - 1) + w) (by omega)
    have f3 := hB.2 (6 * r (n - 1) + w)
    rw [xfix_unf, sX12_closes_0]
    simp (disch := omega) only [xk_none, xk_inl, xk_inr, xk_ite, xri_v, xrl_v, xrv_v, xb_z0, xb_z1, xb_b2, if_true, if_false, ite_true, ite_false, iZ_lit, iZ_m1, iZ_m99, iZ_m8, iZ_add, iZ_sub, iZ_mul, iZ_neg, nz0, nzi, iZ_lt, iZ_le, iZ_inj, b2_z, b2_o, ite_bPz, ite_bPo, xb_bP, iZ_xin, if_pos, ite_self, ↓reduceIte, Int.reduceAdd, Int.reduceSub, Int.reduceMul, Int.reduceNeg, Int.reduceLT, Int.reduceLE, if_neg, e1, f1, e2, f2, cl_0, f0, iZ_bit]
    unfold bw
    by_cases c : (barS A (6 * r (n - 1) + w)).testBit (r 0) = true
    · rw [if_pos c, bP_t c]
    · rw [if_neg c, bP_f c]
  | succ m ih =>
    intro n k M r h1 h2 h3 hA hB ht h0 hr hb
    obtain ⟨k, rfl⟩ : ∃ k', k = k' + 1 := ⟨k - 1, by omega⟩
    have hP := hA.ok.P
    have hbit : ∀ i, i < n → r i < aP A := fun i hi => Nat.lt_of_not_le fun z => by
      have := (hr i hi).1
      rw [Nat.testBit_lt_two_pow (Nat.lt_of_lt_of_le hh (Nat.pow_le_pow_right (by decide) z))] at this
      cases this
    have hp9 := pow9 hP
    have b1 := hbit (n - 1) (by omega)
    have b0 := hbit 0 (by omega)
    have f1 := ht (n - 1) (by omega)
    have f0 := ht 0 (by omega)
    have hr1 := hr (n - 1) (by omega)
    have e1 : Int32.toNatClampNeg (iZ ((n : Int) - 1)) = n - 1 := by rw [iZ_clamp (by omega)]; omega
    have top : hX12_closes (k + 1) [.inr (.inr (12, 0)), .inl (iZ n), .inl (iZ L), .inl (iZ heap), .inl (iZ w)] M = xfix (gX12_closes (hX12_closes k)) (57, [some (.inr (.inr (12, 0))), some (.inl (iZ (n))), some (.inl (iZ (L))), some (.inl (iZ (heap))), some (.inl (iZ (w))), some (.inl (iZ ((r (n - 1))))), some (.inl (iZ ((p + 1 : Nat)))), none, none], [], M) := by
      show xfix (gX12_closes (hX12_closes k)) (0, [some (.inr (.inr (12, 0))), some (.inl (iZ n)), some (.inl (iZ L)), some (.inl (iZ heap)), some (.inl (iZ w)), none, none, none, none], [], M) = _
      rw [← h0, xfix_unf, sX12_closes_0]
      simp (disch := omega) only [xk_none, xk_inl, xk_inr, xk_ite, xri_v, xrl_v, xrv_v, xb_z0, xb_z1, xb_b2, if_true, if_false, ite_true, ite_false, iZ_lit, iZ_m1, iZ_m99, iZ_m8, iZ_add, iZ_sub, iZ_mul, iZ_neg, nz0, nzi, iZ_lt, iZ_le, iZ_inj, b2_z, b2_o, ite_bPz, ite_bPo, xb_bP, iZ_xin, if_pos, ite_self, ↓reduceIte, Int.reduceAdd, Int.reduceSub, Int.reduceMul, Int.reduceNeg, Int.reduceLT, Int.reduceLE, if_neg, e1, f1, cl_0, f0, nS]
    have good : ∀ q, (bw A w (r (n - 1)) q ∧ rcW A heap w p (L - n) q) → heap.testBit q = true ∧ p ≤ q ∧ (∀ i, i < n → r i ≠ q) := fun q hq => by
      have hh2 := hq.2
      rw [show L - n = (L - n - 1) + 1 by omega] at hh2
      exact ⟨hh2.1.1, hh2.1.2, fun i hi => no_back hw hS (by omega) (fun i hi => (hr i hi).1) hb hq.1 hq.2 hi⟩
    have hres : rcW A heap w p (m + 1 + 1) (r (n - 1)) ↔ ∃ q, bw A w (r (n - 1)) q ∧ rcW A heap w p (L - n) q := by
      rw [show L - n = m + 1 by omega]
      exact ⟨fun z => z.2, fun z => ⟨hr1, z⟩⟩
    have loop : ∀ (d q : Nat) (N : xM), q + d = aP A → p + 1 ≤ q → xSm (fun rr j => rr = (146, 0) ∧ n ≤ j) M N → (∀ q', q' < q → ¬ (bw A w (r (n - 1)) q' ∧ rcW A heap w p (L - n) q')) → ∃ M', xfix (gX12_closes (hX12_closes k)) (57, [some (.inr (.inr (12, 0))), some (.inl (iZ (n))), some (.inl (iZ (L))), some (.inl (iZ (heap))), some (.inl (iZ (w))), some (.inl (iZ ((r (n - 1))))), some (.inl (iZ (q))), none, none], [], N) = some (some (.inl (bP (∃ q, bw A w (r (n - 1)) q ∧ rcW A heap w p (L - n) q))), M') ∧ xSm (fun rr j => rr = (146, 0) ∧ n ≤ j) M M' ∧ ((∃ q, bw A w (r (n - 1)) q ∧ rcW A heap w p (L - n) q) → ∀ j, j < m + 1 → xI M' (146, 0) (n + j) = iZ (gct A heap w p L n (r (n - 1)) (j + 1))) := by
      intro d
      induction d with
      | zero =>
        intro q N hd hq hN hno
        have hNA := hA.fr (hN.S (fun _ _ z => z.1) : xSame q6 M N) (by decide)
        have none : ¬ ∃ q, bw A w (r (n - 1)) q ∧ rcW A heap w p (L - n) q := fun ⟨q', z⟩ => by
          have g := good q' z
          refine hno q' (Nat.lt_of_not_le fun y => ?_) z
          have := g.1
          rw [Nat.testBit_lt_two_pow (Nat.lt_of_lt_of_le hh (Nat.pow_le_pow_right (by decide) (by omega)))] at this
          cases this
        refine ⟨N, ?_, hN, fun z => absurd z none⟩
        rw [bP_f none, xfix_unf, sX12_closes_57]
        simp (disch := omega) only [xk_none, xk_inl, xk_inr, xk_ite, xri_v, xrl_v, xrv_v, xb_z0, xb_z1, xb_b2, if_true, if_false, ite_true, ite_false, iZ_lit, iZ_m1, iZ_m99, iZ_m8, iZ_add, iZ_sub, iZ_mul, iZ_neg, nz0, nzi, iZ_lt, iZ_le, iZ_inj, b2_z, b2_o, ite_bPz, ite_bPo, xb_bP, iZ_xin, if_pos, ite_self, ↓reduceIte, Int.reduceAdd, Int.reduceSub, Int.reduceMul, Int.reduceNeg, Int.reduceLT, Int.reduceLE, if_neg, nS, iZ_clampN, iZ_bit, iZ_one, iZ_and, iZ_or, iZ_ndn, hNA.P.1]
      | succ d ihd =>
        intro q N hd hq hN hno
        have hNA := hA.fr (hN.S (fun _ _ z => z.1) : xSame q6 M N) (by decide)
        have hNB := hB.fr (hN.S (fun _ _ z => z.1) : xSame q6 M N) (by decide)
        have htN : ∀ i, i < n → xI N (146, 0) i = iZ (r i) := fun i hi => by rw [(hN (146, 0) i (fun z => by omega)).1]; exact ht i hi
        have e2 : Int32.toNatClampNeg (iZ (6 * (r (n - 1) : Int) + w)) = 6 * r (n - 1) + w := by rw [iZ_clamp (by omega)]; omega
        have f2 := hNB.1 (6 * r (n - 1) + w) (by omega)
        have f3 := hNB.2 (6 * r (n - 1) + w)
        have e108 : xfix (gX12_closes (hX12_closes k)) (57, [some (.inr (.inr (12, 0))), some (.inl (iZ (n))), some (.inl (iZ (L))), some (.inl (iZ (heap))), some (.inl (iZ (w))), some (.inl (iZ ((r (n - 1))))), some (.inl (iZ (q))), none, none], [], N) = xfix (gX12_closes (hX12_closes k)) (108, [some (.inr (.inr (12, 0))), some (.inl (iZ (n))), some (.inl (iZ (L))), some (.inl (iZ (heap))), some (.inl (iZ (w))), some (.inl (iZ ((r (n - 1))))), some (.inl (iZ (q))), some (.inl (bP (((heap.testBit q = true ∧ bw A w (r (n - 1)) q) ∧ ∀ i, i < n → r i ≠ q)))), some (.inl (iZ (n)))], [], N) := by
          rw [← cls_108 (by omega) (by omega) htN (fun i hi => by have := hbit i hi; omega), xfix_unf, sX12_closes_57]
          simp (disch := omega) only [xk_none, xk_inl, xk_inr, xk_ite, xri_v, xrl_v, xrv_v, xb_z0, xb_z1, xb_b2, if_true, if_false, ite_true, ite_false, iZ_lit, iZ_m1, iZ_m99, iZ_m8, iZ_add, iZ_sub, iZ_mul, iZ_neg, nz0, nzi, iZ_lt, iZ_le, iZ_inj, b2_z, b2_o, ite_bPz, ite_bPo, xb_bP, iZ_xin, if_pos, ite_self, ↓reduceIte, Int.reduceAdd, Int.reduceSub, Int.reduceMul, Int.reduceNeg, Int.reduceLT, Int.reduceLE, if_neg, nS, iZ_clampN, iZ_bit, iZ_one, iZ_and, iZ_or, iZ_ndn, hNA.P.1, e2, f2]
          unfold bw
          by_cases c1 : heap.testBit q = true
          · rw [if_pos c1]
            by_cases c2 : (barS A (6 * r (n - 1) + w)).testBit q = true
            · rw [if_pos c2, bP_t (c := heap.testBit q = true ∧ (barS A (6 * r (n - 1) + w)).testBit q = true) ⟨c1, c2⟩]; rfl
            · rw [if_neg c2, bP_f (c := heap.testBit q = true ∧ (barS A (6 * r (n - 1) + w)).testBit q = true) (fun z => c2 z.2)]; rfl
          · rw [if_neg c1, bP_f (c := heap.testBit q = true ∧ (barS A (6 * r (n - 1) + w)).testBit q = true) (fun z => c1 z.1)]; rfl
        by_cases c : (heap.testBit q = true ∧ bw A w (r (n - 1)) q) ∧ ∀ i, i < n → r i ≠ q
        · have hN2 : xSm (fun rr j => rr = (146, 0) ∧ n ≤ j) M (xpI N (146, 0) n (iZ q)) := hN.pI ⟨rfl, Nat.le_refl _⟩
          have sS : xSame q6 M (xpI N (146, 0) n (iZ q)) := hN2.S (fun _ _ z => z.1)
          obtain ⟨M2, g1, g2, g3⟩ := ih (n + 1) k (xpI N (146, 0) n (iZ q)) (fun i => if i = n then q else r i) (by omega) (by omega) (by omega) (hA.fr sS (by decide)) (hB.fr sS (by decide)) (fun i hi => by
            show xI (xpI N (146, 0) n (iZ q)) (146, 0) i = iZ ((if i = n then q else r i : Nat) : Int)
            rw [xI_pI]
            by_cases e : i = n
            · rw [if_pos ⟨rfl, e⟩, if_pos e]
            · rw [if_neg (fun z => e z.2), if_neg e]; exact htN i (by omega)) (by show (if 0 = n then q else r 0) = p; rw [if_neg (by omega)]; exact h0) (fun i hi => by
            show heap.testBit (if i = n then q else r i) = true ∧ p ≤ (if i = n then q else r i)
            by_cases e : i = n
            · rw [if_pos e]; exact ⟨c.1.1, by omega⟩
            · rw [if_neg e]; exact hr i (by omega)) (fun i hi => by
            show bw A w (if i = n then q else r i) (if i + 1 = n then q else r (i + 1))
            rw [if_neg (by omega : ¬ i = n)]
            by_cases e : i + 1 = n
            · rw [if_pos e, show i = n - 1 by omega]; exact c.1.2
            · rw [if_neg e]; exact hb i (by omega))
          have eq1 : (if n + 1 - 1 = n then q else r (n + 1 - 1)) = q := if_pos (by omega)
          rw [eq1, show m + 1 = L - n by omega] at g1 g3
          have hs2 : xSm (fun rr j => rr = (146, 0) ∧ n ≤ j) M M2 := hN2.tr (g2.wk fun rr j z => ⟨z.1, by omega⟩)
          have step : xfix (gX12_closes (hX12_closes k)) (57, [some (.inr (.inr (12, 0))), some (.inl (iZ (n))), some (.inl (iZ (L))), some (.inl (iZ (heap))), some (.inl (iZ (w))), some (.inl (iZ ((r (n - 1))))), some (.inl (iZ (q))), none, none], [], N) = @ite _ (rcW A heap w p (L - n) q) (Classical.propDecidable _) (some (some (.inl (iZ (1))), M2)) (xfix (gX12_closes (hX12_closes k)) (57, [some (.inr (.inr (12, 0))), some (.inl (iZ (n))), some (.inl (iZ (L))), some (.inl (iZ (heap))), some (.inl (iZ (w))), some (.inl (iZ ((r (n - 1))))), some (.inl (iZ (((q : Int) + 1)))), none, none], [], M2)) := by
            rw [nS] at g1
            rw [e108, bP_t c, xfix_unf, sX12_closes_108]
            simp (disch := omega) only [xk_none, xk_inl, xk_inr, xk_ite, xri_v, xrl_v, xrv_v, xb_z0, xb_z1, xb_b2, if_true, if_false, ite_true, ite_false, iZ_lit, iZ_m1, iZ_m99, iZ_m8, iZ_add, iZ_sub, iZ_mul, iZ_neg, nz0, nzi, iZ_lt, iZ_le, iZ_inj, b2_z, b2_o, ite_bPz, ite_bPo, xb_bP, iZ_xin, if_pos, ite_self, ↓reduceIte, Int.reduceAdd, Int.reduceSub, Int.reduceMul, Int.reduceNeg, Int.reduceLT, Int.reduceLE, if_neg, nS, iZ_clampN, iZ_bit, iZ_one, iZ_and, iZ_or, iZ_ndn, g1]
          by_cases y : rcW A heap w p (L - n) q
          · refine ⟨M2, ?_, hs2, fun _ j hj => ?_⟩
            · rw [step, if_pos y, bP_t ⟨q, c.1.2, y⟩]
            · have eg : gnx A heap w p (L - n) (r (n - 1)) = q := lst_eq (by omega) (fun i hi => hno i hi) (fun _ => ⟨c.1.2, y⟩)
              cases j with
              | zero =>
                show xI M2 (146, 0) n = iZ (gnx A heap w p (L - (n + 0)) (r (n - 1)))
                rw [show n + 0 = n from rfl, eg, (g2 (146, 0) n (fun z => by omega)).1, xI_pI, if_pos ⟨rfl, rfl⟩]
              | succ j =>
                rw [gct_S, eg, show n + (j + 1) = n + 1 + j by omega]
                exact g3 y j (by omega)
          · have hno2 : ∀ q', q' < q + 1 → ¬ (bw A w (r (n - 1)) q' ∧ rcW A heap w p (L - n) q') := fun q' hq' z => by
              by_cases e : q' = q
              · subst e; exact y z.2
              · exact hno q' (by omega) z
            obtain ⟨M3, k1, k2, k3⟩ := ihd (q + 1) M2 (by omega) (by omega) hs2 hno2
            refine ⟨M3, ?_, k2, k3⟩
            rw [step, if_neg y, ← k1, nS]
        · have hno2 : ∀ q', q' < q + 1 → ¬ (bw A w (r (n - 1)) q' ∧ rcW A heap w p (L - n) q') := fun q' hq' z => by
            by_cases e : q' = q
            · subst e
              have g := good q' z
              exact c ⟨⟨g.1, z.1⟩, g.2.2⟩
            · exact hno q' (by omega) z
          obtain ⟨M3, k1, k2, k3⟩ := ihd (q + 1) N (by omega) (by omega) hN hno2
          refine ⟨M3, ?_, k2, k3⟩
          rw [e108, bP_f c, ← k1, nS, xfix_unf, sX12_closes_108]
          simp (disch := omega) only [xk_none, xk_inl, xk_inr, xk_ite, xri_v, xrl_v, xrv_v, xb_z0, xb_z1, xb_b2, if_true, if_false, ite_true, ite_false, iZ_lit, iZ_m1, iZ_m99, iZ_m8, iZ_add, iZ_sub, iZ_mul, iZ_neg, nz0, nzi, iZ_lt, iZ_le, iZ_inj, b2_z, b2_o, ite_bPz, ite_bPo, xb_bP, iZ_xin, if_pos, ite_self, ↓reduceIte, Int.reduceAdd, Int.reduceSub, Int.reduceMul, Int.reduceNeg, Int.reduceLT, Int.reduceLE, if_neg, nS, iZ_clampN, iZ_bit, iZ_one, iZ_and, iZ_or, iZ_ndn]
    have hp0 : p < aP A := by rw [← h0]; exact b0
    obtain ⟨M', g1, g2, g3⟩ := loop (aP A - (p + 1)) (p + 1) M (by omega) (Nat.le_refl _) xSm.rf (fun q' hq' z => by
      have g := good q' z
      have := g.2.2 0 (by omega)
      rw [h0] at this
      omega)
    refine ⟨M', ?_, g2, fun z => g3 (hres.mp z)⟩
    rw [top, g1]
    exact rP hres.symm
/-- the first length with a ring, and the ring's first part -/
theorem rgL_ex (A : dA) (heap w : Nat) : ∃ k, k = lst (fun L => 2 ≤ L ∧ ∃ p, heap.testBit p = true ∧ rcW A heap w p L p) 10 := ⟨_, rfl⟩
noncomputable def rgL (A : dA) (heap w : Nat) : Nat := Classical.choose (rgL_ex A heap w)
theorem rgL_d (A : dA) (heap w : Nat) : rgL A heap w = lst (fun L => 2 ≤ L ∧ ∃ p, heap.testBit p = true ∧ rcW A heap w p L p) 10 := Classical.choose_spec (rgL_ex A heap w)
noncomputable def rgP (A : dA) (heap w L : Nat) : Nat := lst (fun p => heap.testBit p = true ∧ rcW A heap w p L p) 9
noncomputable def rgK (A : dA) (heap w k : Nat) : Nat := gct A heap w (rgP A heap w (rgL A heap w)) (rgL A heap w) 1 (rgP A heap w (rgL A heap w)) k
theorem rgL_is {A : dA} {heap w : Nat} (h : rgL A heap w < 10) : 2 ≤ rgL A heap w ∧ ∃ p, heap.testBit p = true ∧ rcW A heap w p (rgL A heap w) p := by
  rw [rgL_d] at h ⊢
  exact lst_is (fun L => 2 ≤ L ∧ ∃ p, heap.testBit p = true ∧ rcW A heap w p L p) 10 h
theorem rgL_no {A : dA} {heap w i : Nat} (h : i < rgL A heap w) : ¬ (2 ≤ i ∧ ∃ p, heap.testBit p = true ∧ rcW A heap w p i p) := by
  rw [rgL_d] at h
  exact lst_no (fun L => 2 ≤ L ∧ ∃ p, heap.testBit p = true ∧ rcW A heap w p L p) 10 i h
theorem rgL_10 (A : dA) (heap w : Nat) : rgL A heap w ≤ 10 := by rw [rgL_d]; exact lst_le _ 10
theorem rgL_eq {A : dA} {heap w L : Nat} (h2 : 2 ≤ L) (h10 : L < 10) (h : ∃ p, heap.testBit p = true ∧ rcW A heap w p L p) (hL : L ≤ rgL A heap w) : rgL A heap w = L := by
  refine Nat.le_antisymm (Nat.le_of_not_lt fun z => rgL_no z ⟨h2, h⟩) hL
theorem noS_le {A : dA} {heap w L : Nat} (h : L ≤ rgL A heap w) : noS A heap w L := fun k k1 k2 p p1 p2 => rgL_no (Nat.lt_of_lt_of_le k2 h) ⟨k1, p, p1, p2⟩
/-- a shortest ring has no part twice -/
theorem ring_simple {A : dA} {heap w L p : Nat} (hw : w < 6) (hh : heap < 2 ^ aP A) (hS : noS A heap w L) (p2 : rcW A heap w p L p) : L ≤ aP A := by
  obtain ⟨f, f1, f2, f3, f4⟩ := rcW_f.mp p2
  refine fb_holes (aP A) L f (fun i hi => Nat.lt_of_not_le fun z => ?_) (fun i j hij hj he => ?_)
  · have := (f3 i hi).1
    rw [Nat.testBit_lt_two_pow (Nat.lt_of_lt_of_le hh (Nat.pow_le_pow_right (by decide) z))] at this
    cases this
  · exact no_rep hw hS f hij (by omega) he (fun t t1 t2 => (f3 t (by omega)).1) (fun t t1 t2 => f4 t (by omega))
theorem rgL_le {A : dA} {heap w : Nat} (hw : w < 6) (hh : heap < 2 ^ aP A) (h : rgL A heap w < 10) : 2 ≤ rgL A heap w ∧ rgL A heap w ≤ aP A ∧ ∃ p, heap.testBit p = true ∧ rcW A heap w p (rgL A heap w) p := ⟨(rgL_is h).1, (rgL_is h).2.elim fun _ hp => ring_simple hw hh (noS_le (Nat.le_refl _)) hp.2, (rgL_is h).2⟩
def fnR (r : xR) (j : Nat) : Prop := r = (145, 0) ∨ r = (146, 0) ∨ (r = (12, 0) ∧ j = 47)
theorem mA.fn {M M' : xM} {A : dA} (h : mA M A) (hs : xSm fnR M M') : mA M' A := h.sm hs (by unfold fnR; decide) (by unfold fnR; decide) (fun r hr j => by
  simp only [List.mem_cons, List.mem_nil_iff, or_false] at hr
  rcases hr with e | e | e | e | e | e | e | e <;> subst e <;> simp [fnR])
theorem mB.fn {M M' : xM} {B : Nat → Nat} (h : mB M B) (hs : xSm fnR M M') : mB M' B := ⟨fun k hk => by rw [(hs (132, 0) k (by simp [fnR])).1]; exact h.1 k hk, h.2⟩
/-- one length, from one part on -/
theorem fin_25 {A : dA} {heap w L : Nat} (hw : w < 6) (hL2 : 2 ≤ L) (hS : noS A heap w L) (hh : heap < 2 ^ aP A) (hLP : L ≤ aP A) : ∀ (d q : Nat) (M : xM), q + d = aP A → mA M A → mB M (barS A) → xI M (12, 0) 47 = iZ 0 → (∀ p, p < q → ¬ (heap.testBit p = true ∧ rcW A heap w p L p)) → ∃ M', xfix gX12_finds (25, [some (.inr (.inr (12, 0))), some (.inl (iZ (heap))), some (.inl (iZ (w))), some (.inl (iZ (L))), some (.inl (iZ (q))), none], [], M) = xfix gX12_finds (7, [some (.inr (.inr (12, 0))), some (.inl (iZ (heap))), some (.inl (iZ (w))), some (.inl (iZ (((L : Int) + 1)))), none, none], [], M') ∧ xSm fnR M M' ∧ ((xI M' (12, 0) 47 = iZ 0 ∧ ∀ p, ¬ (heap.testBit p = true ∧ rcW A heap w p L p)) ∨ (xI M' (12, 0) 47 = iZ L ∧ (∃ p, heap.testBit p = true ∧ rcW A heap w p L p) ∧ ∀ k, k < L → xI M' (145, 0) k = iZ (gct A heap w (rgP A heap w L) L 1 (rgP A heap w L) k)))
  | 0, q, M, hd, hA, hB, h0, hno => by
    have hP := hA.ok.P
    refine ⟨M, ?_, xSm.rf, .inl ⟨h0, fun p z => ?_⟩⟩
    · rw [xfix_unf, sX12_finds_25]
      simp (disch := omega) only [xk_none, xk_inl, xk_inr, xk_ite, xri_v, xrl_v, xrv_v, xb_z0, xb_z1, xb_b2, if_true, if_false, ite_true, ite_false, iZ_lit, iZ_m1, iZ_m99, iZ_m8, iZ_add, iZ_sub, iZ_mul, iZ_neg, nz0, nzi, iZ_lt, iZ_le, iZ_inj, b2_z, b2_o, ite_bPz, ite_bPo, xb_bP, iZ_xin, if_pos, ite_self, ↓reduceIte, Int.reduceAdd, Int.reduceSub, Int.reduceMul, Int.reduceNeg, Int.reduceLT, Int.reduceLE, if_neg, nS, iZ_clampN, iZ_bit, iZ_one, iZ_and, iZ_or, iZ_ndn, hA.P.1]
    · refine hno p (Nat.lt_of_not_le fun y => ?_) z
      have := z.1
      rw [Nat.testBit_lt_two_pow (Nat.lt_of_lt_of_le hh (Nat.pow_le_pow_right (by decide) (by omega)))] at this
      cases this
  | d + 1, q, M, hd, hA, hB, h0, hno => by
    have hP := hA.ok.P
    have hp9 := pow9 hP
    by_cases c : heap.testBit q = true
    · have s1 : xSm fnR M (xpI M (146, 0) 0 (iZ q)) := xSm.rf.pI (.inr (.inl rfl))
      obtain ⟨M2, g1, g2, g3⟩ := m_closes (p := q) hw (by omega) hS hh (L - 1) 1 12 (xpI M (146, 0) 0 (iZ q)) (fun _ => q) (by omega) (by omega) (by omega) (hA.fn s1) (hB.fn s1) (fun i hi => by rw [show i = 0 by omega, xI_pI, if_pos ⟨rfl, rfl⟩]) rfl (fun i hi => ⟨c, Nat.le_refl _⟩) (fun i hi => by omega)
      rw [show L - 1 + 1 = L by omega] at g1 g3
      have g1' : fX12_closes [.inr (.inr (12, 0)), .inl (iZ ((1 : Int))), .inl (iZ (L)), .inl (iZ (heap)), .inl (iZ (w))] (xpI M (146, 0) 0 (iZ q)) = some (some (.inl (bP (rcW A heap w q L q))), M2) := g1
      have s2 : xSm fnR M M2 := s1.tr (g2.wk fun r j z => .inr (.inl z.1))
      have h02 : xI M2 (12, 0) 47 = iZ 0 := by rw [(g2 (12, 0) 47 (by simp)).1, xI_pI_ne (by decide)]; exact h0
      by_cases y : rcW A heap w q L q
      · have eP : rgP A heap w L = q := lst_eq (by omega) (fun i hi => hno i hi) (fun _ => ⟨c, y⟩)
        have s3 : xSm fnR M (xpI M2 (12, 0) 47 (iZ L)) := s2.pI (.inr (.inr ⟨rfl, rfl⟩))
        obtain ⟨M3, k1, k2, k3⟩ := xfor_M (sg := gX12_finds) (st := fun k M => (83, [some (.inr (.inr (12, 0))), some (.inl (iZ (heap))), some (.inl (iZ (w))), some (.inl (iZ (L))), some (.inl (iZ (q))), some (.inl (iZ (k)))], [], M)) (I := fun k N => xSame (fun r => r = (145, 0)) (xpI M2 (12, 0) 47 (iZ L)) N ∧ ∀ j, j < k → xI N (145, 0) j = xI M2 (146, 0) j) (n := L) (fun k N hk hN => by
          refine ⟨xpI N (145, 0) k (xI M2 (146, 0) k), ?_, hN.1.pI rfl, fun j hj => ?_⟩
          · have f : xI N (146, 0) k = xI M2 (146, 0) k := by rw [(hN.1 (146, 0) (by decide)).1, xI_pI_ne (by decide)]
            rw [xfix_unf, sX12_finds_83]
            simp (disch := omega) only [xk_none, xk_inl, xk_inr, xk_ite, xri_v, xrl_v, xrv_v, xb_z0, xb_z1, xb_b2, if_true, if_false, ite_true, ite_false, iZ_lit, iZ_m1, iZ_m99, iZ_m8, iZ_add, iZ_sub, iZ_mul, iZ_neg, nz0, nzi, iZ_lt, iZ_le, iZ_inj, b2_z, b2_o, ite_bPz, ite_bPo, xb_bP, iZ_xin, if_pos, ite_self, ↓reduceIte, Int.reduceAdd, Int.reduceSub, Int.reduceMul, Int.reduceNeg, Int.reduceLT, Int.reduceLE, if_neg, nS, iZ_clampN, iZ_bit, iZ_one, iZ_and, iZ_or, iZ_ndn, f]
          · rw [xI_pI]
            by_cases e : j = k
            · rw [if_pos ⟨rfl, e⟩, e]
            · rw [if_neg (fun z => e z.2)]; exact hN.2 j (by omega)) (a := 0) (M := xpI M2 (12, 0) 47 (iZ L)) (by omega) ⟨xSame.rf, fun j hj => by omega⟩
        have s4 : xSm fnR M M3 := s3.tr (k2.sm.wk fun r j z => .inl z)
        have hA3 := hA.fn s4
        have h47 : xI M3 (12, 0) 47 = iZ L := by rw [(k2 (12, 0) (by decide)).1, xI_pI, if_pos ⟨rfl, rfl⟩]
        refine ⟨M3, ?_, s4, .inr ⟨h47, ⟨q, c, y⟩, fun k hk => ?_⟩⟩
        · have t1 : xfix gX12_finds (25, [some (.inr (.inr (12, 0))), some (.inl (iZ (heap))), some (.inl (iZ (w))), some (.inl (iZ (L))), some (.inl (iZ (q))), none], [], M) = xfix gX12_finds (83, [some (.inr (.inr (12, 0))), some (.inl (iZ (heap))), some (.inl (iZ (w))), some (.inl (iZ (L))), some (.inl (iZ (q))), some (.inl (iZ ((0 : Nat))))], [], xpI M2 (12, 0) 47 (iZ L)) := by
            rw [xfix_unf, sX12_finds_25]
            simp (disch := omega) only [xk_none, xk_inl, xk_inr, xk_ite, xri_v, xrl_v, xrv_v, xb_z0, xb_z1, xb_b2, if_true, if_false, ite_true, ite_false, iZ_lit, iZ_m1, iZ_m99, iZ_m8, iZ_add, iZ_sub, iZ_mul, iZ_neg, nz0, nzi, iZ_lt, iZ_le, iZ_inj, b2_z, b2_o, ite_bPz, ite_bPo, xb_bP, iZ_xin, if_pos, ite_self, ↓reduceIte, Int.reduceAdd, Int.reduceSub, Int.reduceMul, Int.reduceNeg, Int.reduceLT, Int.reduceLE, if_neg, nS, iZ_clampN, iZ_bit, iZ_one, iZ_and, iZ_or, iZ_ndn, hA.P.1, h0, if_pos c, cl_0, g1', if_pos y]
            rfl
          have t2 : xfix gX12_finds (83, [some (.inr (.inr (12, 0))), some (.inl (iZ (heap))), some (.inl (iZ (w))), some (.inl (iZ (L))), some (.inl (iZ (q))), some (.inl (iZ (L)))], [], M3) = xfix gX12_finds (25, [some (.inr (.inr (12, 0))), some (.inl (iZ (heap))), some (.inl (iZ (w))), some (.inl (iZ (L))), some (.inl (iZ (((q : Int) + 1)))), none], [], M3) := by
            rw [xfix_unf, sX12_finds_83]
            simp (disch := omega) only [xk_none, xk_inl, xk_inr, xk_ite, xri_v, xrl_v, xrv_v, xb_z0, xb_z1, xb_b2, if_true, if_false, ite_true, ite_false, iZ_lit, iZ_m1, iZ_m99, iZ_m8, iZ_add, iZ_sub, iZ_mul, iZ_neg, nz0, nzi, iZ_lt, iZ_le, iZ_inj, b2_z, b2_o, ite_bPz, ite_bPo, xb_bP, iZ_xin, if_pos, ite_self, ↓reduceIte, Int.reduceAdd, Int.reduceSub, Int.reduceMul, Int.reduceNeg, Int.reduceLT, Int.reduceLE, if_neg, nS, iZ_clampN, iZ_bit, iZ_one, iZ_and, iZ_or, iZ_ndn]
          rw [t1, k1, t2]
          rw [xfix_unf, sX12_finds_25]
          by_cases e : aP A ≤ q + 1
          · simp (disch := omega) only [xk_none, xk_inl, xk_inr, xk_ite, xri_v, xrl_v, xrv_v, xb_z0, xb_z1, xb_b2, if_true, if_false, ite_true, ite_false, iZ_lit, iZ_m1, iZ_m99, iZ_m8, iZ_add, iZ_sub, iZ_mul, iZ_neg, nz0, nzi, iZ_lt, iZ_le, iZ_inj, b2_z, b2_o, ite_bPz, ite_bPo, xb_bP, iZ_xin, if_pos, ite_self, ↓reduceIte, Int.reduceAdd, Int.reduceSub, Int.reduceMul, Int.reduceNeg, Int.reduceLT, Int.reduceLE, if_neg, nS, iZ_clampN, iZ_bit, iZ_one, iZ_and, iZ_or, iZ_ndn, hA3.P.1]
          · simp (disch := omega) only [xk_none, xk_inl, xk_inr, xk_ite, xri_v, xrl_v, xrv_v, xb_z0, xb_z1, xb_b2, if_true, if_false, ite_true, ite_false, iZ_lit, iZ_m1, iZ_m99, iZ_m8, iZ_add, iZ_sub, iZ_mul, iZ_neg, nz0, nzi, iZ_lt, iZ_le, iZ_inj, b2_z, b2_o, ite_bPz, ite_bPo, xb_bP, iZ_xin, if_pos, ite_self, ↓reduceIte, Int.reduceAdd, Int.reduceSub, Int.reduceMul, Int.reduceNeg, Int.reduceLT, Int.reduceLE, if_neg, nS, iZ_clampN, iZ_bit, iZ_one, iZ_and, iZ_or, iZ_ndn, hA3.P.1, h47]
        · rw [k3 k hk, eP]
          cases k with
          | zero =>
            rw [(g2 (146, 0) 0 (fun z => by omega)).1, xI_pI, if_pos ⟨rfl, rfl⟩]
            rfl
          | succ k =>
            have := g3 y k (by omega)
            rw [show 1 + k = k + 1 by omega] at this
            exact this
      · obtain ⟨M3, k1, k2, k3⟩ := fin_25 hw hL2 hS hh hLP d (q + 1) M2 (by omega) (hA.fn s2) (hB.fn s2) h02 (fun p hp z => by
          by_cases e : p = q
          · subst e; exact y z.2
          · exact hno p (by omega) z)
        refine ⟨M3, ?_, s2.tr k2, k3⟩
        rw [← k1, nS]
        rw [xfix_unf, sX12_finds_25]
        simp (disch := omega) only [xk_none, xk_inl, xk_inr, xk_ite, xri_v, xrl_v, xrv_v, xb_z0, xb_z1, xb_b2, if_true, if_false, ite_true, ite_false, iZ_lit, iZ_m1, iZ_m99, iZ_m8, iZ_add, iZ_sub, iZ_mul, iZ_neg, nz0, nzi, iZ_lt, iZ_le, iZ_inj, b2_z, b2_o, ite_bPz, ite_bPo, xb_bP, iZ_xin, if_pos, ite_self, ↓reduceIte, Int.reduceAdd, Int.reduceSub, Int.reduceMul, Int.reduceNeg, Int.reduceLT, Int.reduceLE, if_neg, nS, iZ_clampN, iZ_bit, iZ_one, iZ_and, iZ_or, iZ_ndn, hA.P.1, h0, if_pos c, cl_0, g1', if_neg y]
    · obtain ⟨M3, k1, k2, k3⟩ := fin_25 hw hL2 hS hh hLP d (q + 1) M (by omega) hA hB h0 (fun p hp z => by
        by_cases e : p = q
        · subst e; exact c z.1
        · exact hno p (by omega) z)
      refine ⟨M3, ?_, k2, k3⟩
      rw [← k1, nS]
      rw [xfix_unf, sX12_finds_25]
      simp (disch := omega) only [xk_none, xk_inl, xk_inr, xk_ite, xri_v, xrl_v, xrv_v, xb_z0, xb_z1, xb_b2, if_true, if_false, ite_true, ite_false, iZ_lit, iZ_m1, iZ_m99, iZ_m8, iZ_add, iZ_sub, iZ_mul, iZ_neg, nz0, nzi, iZ_lt, iZ_le, iZ_inj, b2_z, b2_o, ite_bPz, ite_bPo, xb_bP, iZ_xin, if_pos, ite_self, ↓reduceIte, Int.reduceAdd, Int.reduceSub, Int.reduceMul, Int.reduceNeg, Int.reduceLT, Int.reduceLE, if_neg, nS, iZ_clampN, iZ_bit, iZ_one, iZ_and, iZ_or, iZ_ndn, hA.P.1, h0, if_neg c]
theorem m_finds {A : dA} {heap w : Nat} {M : xM} (hw : w < 6) (hh : heap < 2 ^ aP A) (hA : mA M A) (hB : mB M (barS A)) : ∃ M', fX12_finds [.inr (.inr (12, 0)), .inl (iZ (heap)), .inl (iZ (w))] M = some (none, M') ∧ xSm fnR M M' ∧ ((xI M' (12, 0) 47 = iZ 0 ∧ rgL A heap w = 10) ∨ (xI M' (12, 0) 47 = iZ (rgL A heap w) ∧ (2 ≤ rgL A heap w ∧ rgL A heap w ≤ aP A) ∧ ∀ k, k < rgL A heap w → xI M' (145, 0) k = iZ (rgK A heap w k))) := by
  have hP := hA.ok.P
  have s0 : xSm fnR M (xpI M (12, 0) 47 (iZ 0)) := xSm.rf.pI (.inr (.inr ⟨rfl, rfl⟩))
  have h00 : xI (xpI M (12, 0) 47 (iZ 0)) (12, 0) 47 = iZ 0 := by rw [xI_pI, if_pos ⟨rfl, rfl⟩]
  have top : fX12_finds [.inr (.inr (12, 0)), .inl (iZ (heap)), .inl (iZ (w))] M = xfix gX12_finds (7, [some (.inr (.inr (12, 0))), some (.inl (iZ (heap))), some (.inl (iZ (w))), some (.inl (iZ ((2 : Nat)))), none, none], [], xpI M (12, 0) 47 (iZ 0)) := by
    show xfix gX12_finds (0, [some (.inr (.inr (12, 0))), some (.inl (iZ (heap))), some (.inl (iZ (w))), none, none, none], [], M) = _; rw [xfix_unf, sX12_finds_0]
    simp (disch := omega) only [xk_none, xk_inl, xk_inr, xk_ite, xri_v, xrl_v, xrv_v, xb_z0, xb_z1, xb_b2, if_true, if_false, ite_true, ite_false, iZ_lit, iZ_m1, iZ_m99, iZ_m8, iZ_add, iZ_sub, iZ_mul, iZ_neg, nz0, nzi, iZ_lt, iZ_le, iZ_inj, b2_z, b2_o, ite_bPz, ite_bPo, xb_bP, iZ_xin, if_pos, ite_self, ↓reduceIte, Int.reduceAdd, Int.reduceSub, Int.reduceMul, Int.reduceNeg, Int.reduceLT, Int.reduceLE, if_neg]
    rfl
  have loop : ∀ (d L : Nat) (N : xM), L + d = 10 → 2 ≤ L → xSm fnR M N → xI N (12, 0) 47 = iZ 0 → L ≤ rgL A heap w → ∃ M', xfix gX12_finds (7, [some (.inr (.inr (12, 0))), some (.inl (iZ (heap))), some (.inl (iZ (w))), some (.inl (iZ (L))), none, none], [], N) = some (none, M') ∧ xSm fnR M M' ∧ ((xI M' (12, 0) 47 = iZ 0 ∧ rgL A heap w = 10) ∨ (xI M' (12, 0) 47 = iZ (rgL A heap w) ∧ (2 ≤ rgL A heap w ∧ rgL A heap w ≤ aP A) ∧ ∀ k, k < rgL A heap w → xI M' (145, 0) k = iZ (rgK A heap w k))) := by
    intro d
    induction d with
    | zero =>
      intro L N hd h2 hN h0 hL
      have hle := rgL_10 A heap w
      have hNA := hA.fn hN
      refine ⟨N, ?_, hN, .inl ⟨h0, by omega⟩⟩
      rw [xfix_unf, sX12_finds_7]
      simp (disch := omega) only [xk_none, xk_inl, xk_inr, xk_ite, xri_v, xrl_v, xrv_v, xb_z0, xb_z1, xb_b2, if_true, if_false, ite_true, ite_false, iZ_lit, iZ_m1, iZ_m99, iZ_m8, iZ_add, iZ_sub, iZ_mul, iZ_neg, nz0, nzi, iZ_lt, iZ_le, iZ_inj, b2_z, b2_o, ite_bPz, ite_bPo, xb_bP, iZ_xin, if_pos, ite_self, ↓reduceIte, Int.reduceAdd, Int.reduceSub, Int.reduceMul, Int.reduceNeg, Int.reduceLT, Int.reduceLE, if_neg, nS, iZ_clampN, iZ_bit, iZ_one, iZ_and, iZ_or, iZ_ndn, hNA.P.1]
    | succ d ih =>
      intro L N hd h2 hN h0 hL
      have hle := rgL_10 A heap w
      have hNA := hA.fn hN
      by_cases c : aP A < L
      · have e10 : rgL A heap w = 10 := by
          refine Classical.byContradiction fun z => ?_
          have := rgL_le (A := A) hw hh (by omega)
          omega
        refine ⟨N, ?_, hN, .inl ⟨h0, e10⟩⟩
        rw [xfix_unf, sX12_finds_7]
        simp (disch := omega) only [xk_none, xk_inl, xk_inr, xk_ite, xri_v, xrl_v, xrv_v, xb_z0, xb_z1, xb_b2, if_true, if_false, ite_true, ite_false, iZ_lit, iZ_m1, iZ_m99, iZ_m8, iZ_add, iZ_sub, iZ_mul, iZ_neg, nz0, nzi, iZ_lt, iZ_le, iZ_inj, b2_z, b2_o, ite_bPz, ite_bPo, xb_bP, iZ_xin, if_pos, ite_self, ↓reduceIte, Int.reduceAdd, Int.reduceSub, Int.reduceMul, Int.reduceNeg, Int.reduceLT, Int.reduceLE, if_neg, nS, iZ_clampN, iZ_bit, iZ_one, iZ_and, iZ_or, iZ_ndn, hNA.P.1]
      · obtain ⟨N2, g1, g2, g3⟩ := fin_25 hw h2 (noS_le hL) hh (by omega) (aP A) 0 N (by omega) hNA (hB.fn hN) h0 (fun p hp => by omega)
        have t1 : xfix gX12_finds (7, [some (.inr (.inr (12, 0))), some (.inl (iZ (heap))), some (.inl (iZ (w))), some (.inl (iZ (L))), none, none], [], N) = xfix gX12_finds (7, [some (.inr (.inr (12, 0))), some (.inl (iZ (heap))), some (.inl (iZ (w))), some (.inl (iZ (((L : Int) + 1)))), none, none], [], N2) := by
          rw [← g1]
          rw [xfix_unf, sX12_finds_7]
          simp (disch := omega) only [xk_none, xk_inl, xk_inr, xk_ite, xri_v, xrl_v, xrv_v, xb_z0, xb_z1, xb_b2, if_true, if_false, ite_true, ite_false, iZ_lit, iZ_m1, iZ_m99, iZ_m8, iZ_add, iZ_sub, iZ_mul, iZ_neg, nz0, nzi, iZ_lt, iZ_le, iZ_inj, b2_z, b2_o, ite_bPz, ite_bPo, xb_bP, iZ_xin, if_pos, ite_self, ↓reduceIte, Int.reduceAdd, Int.reduceSub, Int.reduceMul, Int.reduceNeg, Int.reduceLT, Int.reduceLE, if_neg, nS, iZ_clampN, iZ_bit, iZ_one, iZ_and, iZ_or, iZ_ndn, hNA.P.1, h0]
          rfl
        rcases g3 with ⟨z1, z2⟩ | ⟨z1, z2, z3⟩
        · have hL2 : L + 1 ≤ rgL A heap w := by
            refine Nat.lt_of_le_of_ne hL fun e => ?_
            by_cases e3 : rgL A heap w < 10
            · have q := (rgL_le (A := A) hw hh e3).2.2
              rw [← e] at q
              exact q.elim z2
            · omega
          obtain ⟨M3, k1, k2, k3⟩ := ih (L + 1) N2 (by omega) (by omega) (hN.tr g2) z1 hL2
          exact ⟨M3, by rw [t1, ← k1, nS], k2, k3⟩
        · have eL : rgL A heap w = L := rgL_eq h2 (by omega) z2 hL
          have hA2 := hA.fn (hN.tr g2)
          refine ⟨N2, ?_, hN.tr g2, .inr ⟨by rw [eL]; exact z1, by omega, fun k hk => ?_⟩⟩
          · rw [t1]
            rw [xfix_unf, sX12_finds_7]
            by_cases e : aP A < L + 1
            · simp (disch := omega) only [xk_none, xk_inl, xk_inr, xk_ite, xri_v, xrl_v, xrv_v, xb_z0, xb_z1, xb_b2, if_true, if_false, ite_true, ite_false, iZ_lit, iZ_m1, iZ_m99, iZ_m8, iZ_add, iZ_sub, iZ_mul, iZ_neg, nz0, nzi, iZ_lt, iZ_le, iZ_inj, b2_z, b2_o, ite_bPz, ite_bPo, xb_bP, iZ_xin, if_pos, ite_self, ↓reduceIte, Int.reduceAdd, Int.reduceSub, Int.reduceMul, Int.reduceNeg, Int.reduceLT, Int.reduceLE, if_neg, nS, iZ_clampN, iZ_bit, iZ_one, iZ_and, iZ_or, iZ_ndn, hA2.P.1]
            · simp (disch := omega) only [xk_none, xk_inl, xk_inr, xk_ite, xri_v, xrl_v, xrv_v, xb_z0, xb_z1, xb_b2, if_true, if_false, ite_true, ite_false, iZ_lit, iZ_m1, iZ_m99, iZ_m8, iZ_add, iZ_sub, iZ_mul, iZ_neg, nz0, nzi, iZ_lt, iZ_le, iZ_inj, b2_z, b2_o, ite_bPz, ite_bPo, xb_bP, iZ_xin, if_pos, ite_self, ↓reduceIte, Int.reduceAdd, Int.reduceSub, Int.reduceMul, Int.reduceNeg, Int.reduceLT, Int.reduceLE, if_neg, nS, iZ_clampN, iZ_bit, iZ_one, iZ_and, iZ_or, iZ_ndn, hA2.P.1, z1]
          · unfold rgK
            rw [eL] at hk ⊢
            exact z3 k hk
  have hr2 : 2 ≤ rgL A heap w := Nat.le_of_not_lt fun z => by
    have h1 := rgL_is (A := A) (heap := heap) (w := w) (by omega)
    omega
  obtain ⟨M', k1, k2, k3⟩ := loop 8 2 (xpI M (12, 0) 47 (iZ 0)) (by omega) (by omega) s0 h00 hr2
  exact ⟨M', top.trans k1, k2, k3⟩
noncomputable def sRing (A : dA) (a w what : Int) : Int := vI (vH A a ∧ vW w ∧ 0 ≤ what ∧ rgL A a.toNat w.toNat < 10 ∧ what ≤ rgL A a.toNat w.toNat) (if what = 0 then (rgL A a.toNat w.toNat : Int) else rgK A a.toNat w.toNat (what - 1).toNat)
theorem q_ring {A : dA} {M : xM} (h : mQ M A) {a w what : Int} (ha : r32 a) (hw : r32 w) (ht : r32 what) : qR M A (fX12_ring [.inr (.inr (12, 0)), .inl (iZ (a)), .inl (iZ (w)), .inl (iZ (what))] M) (.inl (iZ (sRing A a w what))) := by
  have hP := pow9 h.A.ok.P
  have hP9 := h.A.ok.P
  unfold sRing
  by_cases e1 : vH A a
  · by_cases e2 : vW w
    · by_cases e3 : 0 ≤ what
      · obtain ⟨M', a1, a2, a3, a4, a5⟩ := h.kn
        obtain ⟨a, rfl, h1, h2⟩ := e1.n
        obtain ⟨w, rfl, hw2⟩ := e2.n
        have ena : ((a : Int)).toNat = a := by omega
        have enw : ((w : Int)).toNat = w := by omega
        rw [ena, enw]
        obtain ⟨N, b1, b2, b3⟩ := m_finds hw2 h2 a2.A a4.1
        have hs : scr M' N := xSm.wk b2 (by
          rintro r j (e | e | ⟨e, e2⟩)
          · subst e; exact ⟨rfl, rfl⟩
          · subst e; exact ⟨rfl, rfl⟩
          · subst e; subst e2; exact ⟨rfl, rfl⟩)
        refine ⟨N, ?_, a2.scr hs, a3.tr hs.fB⟩
        show xfix gX12_ring (0, [some (.inr (.inr (12, 0))), some (.inl (iZ (a))), some (.inl (iZ (w))), some (.inl (iZ (what)))], [], M) = _; rw [xfix_unf, sX12_ring_0]
        rw [k_isHeap h.A ha, xri_v, k_isWay hw]
        rcases b3 with ⟨z1, z2⟩ | ⟨z1, z2, z3⟩
        · rw [vI_f (fun z => by omega)]
          simp (disch := omega) only [xk_none, xk_inl, xk_inr, xk_ite, xri_v, xrl_v, xrv_v, xb_z0, xb_z1, xb_b2, if_true, if_false, ite_true, ite_false, iZ_lit, iZ_m1, iZ_m99, iZ_m8, iZ_add, iZ_sub, iZ_mul, iZ_neg, nz0, nzi, iZ_lt, iZ_le, iZ_inj, b2_z, b2_o, ite_bPz, ite_bPo, xb_bP, iZ_xin, if_pos, ite_self, ↓reduceIte, Int.reduceAdd, Int.reduceSub, Int.reduceMul, Int.reduceNeg, Int.reduceLT, Int.reduceLE, if_neg, e1, e2, a1, b1, z1]
        · generalize hLL : rgL A a w = LL at *
          by_cases c : what ≤ LL
          · rw [vI_t ⟨e1, e2, e3, by omega, c⟩]
            by_cases c2 : what = 0
            · rw [if_pos c2]
              simp (disch := omega) only [xk_none, xk_inl, xk_inr, xk_ite, xri_v, xrl_v, xrv_v, xb_z0, xb_z1, xb_b2, if_true, if_false, ite_true, ite_false, iZ_lit, iZ_m1, iZ_m99, iZ_m8, iZ_add, iZ_sub, iZ_mul, iZ_neg, nz0, nzi, iZ_lt, iZ_le, iZ_inj, b2_z, b2_o, ite_bPz, ite_bPo, xb_bP, iZ_xin, if_pos, ite_self, ↓reduceIte, Int.reduceAdd, Int.reduceSub, Int.reduceMul, Int.reduceNeg, Int.reduceLT, Int.reduceLE, if_neg, e1, e2, a1, b1, z1]
            · rw [if_neg c2]
              obtain ⟨k, hk⟩ : ∃ k : Nat, what - 1 = k := ⟨(what - 1).toNat, by omega⟩
              rw [hk]
              have enk : ((k : Int)).toNat = k := by omega
              rw [enk]
              simp (disch := omega) only [xk_none, xk_inl, xk_inr, xk_ite, xri_v, xrl_v, xrv_v, xb_z0, xb_z1, xb_b2, if_true, if_false, ite_true, ite_false, iZ_lit, iZ_m1, iZ_m99, iZ_m8, iZ_add, iZ_sub, iZ_mul, iZ_neg, nz0, nzi, iZ_lt, iZ_le, iZ_inj, b2_z, b2_o, ite_bPz, ite_bPo, xb_bP, iZ_xin, if_pos, ite_self, ↓reduceIte, Int.reduceAdd, Int.reduceSub, Int.reduceMul, Int.reduceNeg, Int.reduceLT, Int.reduceLE, if_neg, e1, e2, a1, b1, z1, hk, iZ_clampN, z3 k (by omega)]
          · rw [vI_f (fun z => c z.2.2.2.2)]
            simp (disch := omega) only [xk_none, xk_inl, xk_inr, xk_ite, xri_v, xrl_v, xrv_v, xb_z0, xb_z1, xb_b2, if_true, if_false, ite_true, ite_false, iZ_lit, iZ_m1, iZ_m99, iZ_m8, iZ_add, iZ_sub, iZ_mul, iZ_neg, nz0, nzi, iZ_lt, iZ_le, iZ_inj, b2_z, b2_o, ite_bPz, ite_bPo, xb_bP, iZ_xin, if_pos, ite_self, ↓reduceIte, Int.reduceAdd, Int.reduceSub, Int.reduceMul, Int.reduceNeg, Int.reduceLT, Int.reduceLE, if_neg, e1, e2, a1, b1, z1]
      · refine qR.of h ?_
        rw [vI_f (fun z => e3 z.2.2.1)]
        show xfix gX12_ring (0, [some (.inr (.inr (12, 0))), some (.inl (iZ (a))), some (.inl (iZ (w))), some (.inl (iZ (what)))], [], M) = _; rw [xfix_unf, sX12_ring_0]
        rw [k_isHeap h.A ha, xri_v, k_isWay hw]
        simp (disch := omega) only [xk_none, xk_inl, xk_inr, xk_ite, xri_v, xrl_v, xrv_v, xb_z0, xb_z1, xb_b2, if_true, if_false, ite_true, ite_false, iZ_lit, iZ_m1, iZ_m99, iZ_m8, iZ_add, iZ_sub, iZ_mul, iZ_neg, nz0, nzi, iZ_lt, iZ_le, iZ_inj, b2_z, b2_o, ite_bPz, ite_bPo, xb_bP, iZ_xin, if_pos, ite_self, ↓reduceIte, Int.reduceAdd, Int.reduceSub, Int.reduceMul, Int.reduceNeg, Int.reduceLT, Int.reduceLE, if_neg, e1, e2]
    · refine qR.of h ?_
      rw [vI_f (fun z => e2 z.2.1)]
      show xfix gX12_ring (0, [some (.inr (.inr (12, 0))), some (.inl (iZ (a))), some (.inl (iZ (w))), some (.inl (iZ (what)))], [], M) = _; rw [xfix_unf, sX12_ring_0]
      rw [k_isHeap h.A ha, xri_v, k_isWay hw]
      simp (disch := omega) only [xk_none, xk_inl, xk_inr, xk_ite, xri_v, xrl_v, xrv_v, xb_z0, xb_z1, xb_b2, if_true, if_false, ite_true, ite_false, iZ_lit, iZ_m1, iZ_m99, iZ_m8, iZ_add, iZ_sub, iZ_mul, iZ_neg, nz0, nzi, iZ_lt, iZ_le, iZ_inj, b2_z, b2_o, ite_bPz, ite_bPo, xb_bP, iZ_xin, if_pos, ite_self, ↓reduceIte, Int.reduceAdd, Int.reduceSub, Int.reduceMul, Int.reduceNeg, Int.reduceLT, Int.reduceLE, if_neg, e1, e2]
  · refine qR.of h ?_
    rw [vI_f (fun z => e1 z.1)]
    show xfix gX12_ring (0, [some (.inr (.inr (12, 0))), some (.inl (iZ (a))), some (.inl (iZ (w))), some (.inl (iZ (what)))], [], M) = _; rw [xfix_unf, sX12_ring_0]
    simp (disch := omega) only [xk_none, xk_inl, xk_inr, xk_ite, xri_v, xrl_v, xrv_v, xb_z0, xb_z1, xb_b2, if_true, if_false, ite_true, ite_false, iZ_lit, iZ_m1, iZ_m99, iZ_m8, iZ_add, iZ_sub, iZ_mul, iZ_neg, nz0, nzi, iZ_lt, iZ_le, iZ_inj, b2_z, b2_o, ite_bPz, ite_bPo, xb_bP, iZ_xin, if_pos, ite_self, ↓reduceIte, Int.reduceAdd, Int.reduceSub, Int.reduceMul, Int.reduceNeg, Int.reduceLT, Int.reduceLE, if_neg, k_isHeap h.A ha, e1]
