/-! the reference: the net -/
abbrev nR (r : xR) : Prop := r = (140, 0) ∨ r = (141, 0)
def mkN (M : xM) (n l : Nat → Prop) : Prop := ∀ k, k < 512 → xI M (140, 0) k = bP (n k) ∧ xI M (141, 0) k = bP (l k)
theorem mkN.cg {M : xM} {n l n' l' : Nat → Prop} (h : mkN M n l) (h1 : ∀ k, k < 512 → (n k ↔ n' k)) (h2 : ∀ k, k < 512 → (l k ↔ l' k)) : mkN M n' l' := fun k hk => by
  rw [← bP_c (h1 k hk), ← bP_c (h2 k hk)]
  exact h k hk
theorem mkN.in {M : xM} {n l : Nat → Prop} (h : mkN M n l) (j : Nat) : mkN (xpI M (140, 0) j (iZ 1)) (fun k => n k ∨ k = j) l := fun k hk => by
  refine ⟨?_, by rw [xI_pI_ne (by decide)]; exact (h k hk).2⟩
  rw [xI_pI]
  by_cases e : k = j
  · rw [if_pos ⟨rfl, e⟩, bP_t (.inr e)]
  · rw [if_neg (fun z => e z.2), (h k hk).1]
    exact bP_c ⟨.inl, fun z => z.elim id (fun z => absurd z e)⟩
theorem mkN.lv {M : xM} {n l : Nat → Prop} (h : mkN M n l) (j : Nat) (b : Prop) {v : Int32} (hv : v = bP (l j ∨ b)) : mkN (xpI M (141, 0) j v) n (fun k => l k ∨ (b ∧ k = j)) := fun k hk => by
  refine ⟨by rw [xI_pI_ne (by decide)]; exact (h k hk).1, ?_⟩
  rw [xI_pI]
  by_cases e : k = j
  · rw [if_pos ⟨rfl, e⟩, hv]
    subst e
    exact bP_c ⟨fun z => z.imp id (fun z => ⟨z, rfl⟩), fun z => z.imp id (fun z => z.1)⟩
  · rw [if_neg (fun z => e z.2), (h k hk).2]
    exact bP_c ⟨.inl, fun z => z.elim id (fun z => absurd z.2 e)⟩
theorem net_231 {N : xM} {n l : Nat → Prop} {heap half rest : Nat} (b : Prop) (h1 : half < 512) (h2 : rest < 512) (hne : half ≠ rest) (h : mkN N n l) : ∃ N', xfix gX12_knows (231, [some (.inr (.inr (12, 0))), some (.inl (iZ (heap))), some (.inl (iZ (half))), some (.inl (iZ (rest))), none], [.inl (bP (b))], N) = xfix gX12_knows (145, [some (.inr (.inr (12, 0))), some (.inl (iZ (heap))), some (.inl (iZ (((half : Int) + 1)))), none, none], [], N') ∧ xSame nR N N' ∧ mkN N' n (fun k => l k ∨ (b ∧ (k = half ∨ k = rest))) := by
  have f1 := (h half h1).2
  have f2 := (h rest h2).2
  have key := (h.lv half b rfl).lv rest b (v := bP (l rest ∨ b)) (bP_c ⟨fun z => z.elim (fun z => .inl (.inl z)) .inr, fun z => z.elim (fun z => z.elim .inl (fun z => .inr z.1)) .inr⟩)
  refine ⟨_, ?_, (xSame.rf.pI (.inr rfl)).pI (.inr rfl), key.cg (fun _ _ => Iff.rfl) (fun k _ => ?_)⟩
  · have g1 : xI (xpI N (141, 0) half (bP (l half ∨ b))) (141, 0) rest = bP (l rest) := by rw [xI_pI, if_neg (fun z => hne z.2.symm)]; exact f2
    have e257 : ∀ c : Prop, (c ↔ l half ∨ b) → xfix gX12_knows (257, [some (.inr (.inr (12, 0))), some (.inl (iZ (heap))), some (.inl (iZ (half))), some (.inl (iZ (rest))), some (.inl (bP (b)))], [.inl (bP (c)), .inl (iZ (half)), .inr (.inr (141, 0))], N) = xfix gX12_knows (145, [some (.inr (.inr (12, 0))), some (.inl (iZ (heap))), some (.inl (iZ (((half : Int) + 1)))), none, none], [], xpI (xpI N (141, 0) half (bP (l half ∨ b))) (141, 0) rest (bP (l rest ∨ b))) := fun c hc => by
      rw [bP_c hc]
      rw [xfix_unf, sX12_knows_257]
      simp (disch := omega) only [xk_none, xk_inl, xk_inr, xk_ite, xri_v, xrl_v, xrv_v, xb_z0, xb_z1, xb_b2, if_true, if_false, ite_true, ite_false, iZ_lit, iZ_m1, iZ_m99, iZ_m8, iZ_add, iZ_sub, iZ_mul, iZ_neg, nz0, nzi, iZ_lt, iZ_le, iZ_inj, b2_z, b2_o, ite_bPz, ite_bPo, xb_bP, iZ_xin, if_pos, ite_self, ↓reduceIte, Int.reduceAdd, Int.reduceSub, Int.reduceMul, Int.reduceNeg, Int.reduceLT, Int.reduceLE, if_neg, nS, iZ_clampN, iZ_bit, iZ_one, iZ_and, iZ_or, iZ_ndn, g1]
      by_cases c1 : l rest
      · rw [if_pos c1, bP_t (c := l rest ∨ b) (.inl c1)]
      · by_cases c2 : b
        · rw [if_neg c1, if_pos c2, bP_t (c := l rest ∨ b) (.inr c2)]
        · rw [if_neg c1, if_neg c2, bP_f (c := l rest ∨ b) (fun z => z.elim c1 c2)]
    rw [xfix_unf, sX12_knows_231]
    simp (disch := omega) only [xk_none, xk_inl, xk_inr, xk_ite, xri_v, xrl_v, xrv_v, xb_z0, xb_z1, xb_b2, if_true, if_false, ite_true, ite_false, iZ_lit, iZ_m1, iZ_m99, iZ_m8, iZ_add, iZ_sub, iZ_mul, iZ_neg, nz0, nzi, iZ_lt, iZ_le, iZ_inj, b2_z, b2_o, ite_bPz, ite_bPo, xb_bP, iZ_xin, if_pos, ite_self, ↓reduceIte, Int.reduceAdd, Int.reduceSub, Int.reduceMul, Int.reduceNeg, Int.reduceLT, Int.reduceLE, if_neg, nS, iZ_clampN, iZ_bit, iZ_one, iZ_and, iZ_or, iZ_ndn, f1]
    by_cases c1 : l half
    · rw [if_pos c1, ← e257 True ⟨fun _ => .inl c1, fun _ => trivial⟩, bP_t trivial]
    · by_cases c2 : b
      · rw [if_neg c1, if_pos c2, ← e257 True ⟨fun _ => .inr c2, fun _ => trivial⟩, bP_t trivial]
      · rw [if_neg c1, if_neg c2, ← e257 False ⟨False.elim, fun z => z.elim c1 c2⟩, bP_f not_false]
  · constructor
    · rintro ((a | a) | a)
      · exact .inl a
      · exact .inr ⟨a.1, .inl a.2⟩
      · exact .inr ⟨a.1, .inr a.2⟩
    · rintro (a | ⟨a, b | b⟩)
      · exact .inl (.inl a)
      · exact .inl (.inr ⟨a, b⟩)
      · exact .inr ⟨a, b⟩
theorem net_half {A : dA} {N : xM} {n l : Nat → Prop} {heap half : Nat} (hA : mA N A) (hB : mB N (barS A)) (hK : cK N A (2 ^ aP A)) (hh : heap < 2 ^ aP A) (h1 : 1 ≤ half) (h2 : half < heap) (h : mkN N n l) : ∃ N', xfix gX12_knows (145, [some (.inr (.inr (12, 0))), some (.inl (iZ (heap))), some (.inl (iZ (half))), none, none], [], N) = xfix gX12_knows (145, [some (.inr (.inr (12, 0))), some (.inl (iZ (heap))), some (.inl (iZ (((half : Int) + 1)))), none, none], [], N') ∧ xSame nR N N' ∧ mkN N' (fun k => n k ∨ (ptV A heap half ∧ (k = half ∨ k = ndn heap half))) (fun k => l k ∨ ((l heap ∧ lvV A heap half) ∧ (k = half ∨ k = ndn heap half))) := by
  have hP := pow9 hA.ok.P
  by_cases hv : ptV A heap half
  · have hs := hv.2.2.1
    have hz : ndn half heap = 0 := ndn_and.mpr hs
    have hrest := ndn_add heap half hs
    have hlt := hv.2.2.2.1
    obtain ⟨N', g1, g2, g3⟩ := net_231 (heap := heap) (half := half) (rest := ndn heap half) (l heap ∧ lvV A heap half) (by omega) (by omega) (by omega) ((h.in half).in (ndn heap half))
    refine ⟨N', ?_, ((xSame.rf.pI (.inl rfl)).pI (.inl rfl)).tr g2, g3.cg (fun k _ => ?_) (fun _ _ => Iff.rfl)⟩
    · rw [← g1]
      have f1 := (h heap (by omega)).2
      have f2 := (hK half h1 (by omega)).1
      have f3 := (hK (ndn heap half) (by omega) (by omega)).1
      have b2 := ordA_b A h1 (by omega : half < 512)
      have b3 := ordA_b A (k := ndn heap half) (by omega) (by omega)
      rw [xfix_unf, sX12_knows_145]
      simp (disch := omega) only [xk_none, xk_inl, xk_inr, xk_ite, xri_v, xrl_v, xrv_v, xb_z0, xb_z1, xb_b2, if_true, if_false, ite_true, ite_false, iZ_lit, iZ_m1, iZ_m99, iZ_m8, iZ_add, iZ_sub, iZ_mul, iZ_neg, nz0, nzi, iZ_lt, iZ_le, iZ_inj, b2_z, b2_o, ite_bPz, ite_bPo, xb_bP, iZ_xin, if_pos, ite_self, ↓reduceIte, Int.reduceAdd, Int.reduceSub, Int.reduceMul, Int.reduceNeg, Int.reduceLT, Int.reduceLE, if_neg, nS, iZ_clampN, iZ_bit, iZ_one, iZ_and, iZ_or, iZ_ndn, hz, m_isParting hA hB (by omega : heap < 512) (by omega : half < 512), hv.2.2.2.2, xL_pI, xI_pI_ne (show ((141, 0) : xR) ≠ (140, 0) by decide), f1, f2, f3, lZ_lit, lZ_cle]
      by_cases d1 : l heap
      · by_cases d2 : ordA A half ≤ 0
        · rw [if_pos d1, if_pos d2, bP_f (fun z => by have := z.2.2.1; omega)]
        · by_cases d3 : ordA A (ndn heap half) ≤ 0
          · rw [if_pos d1, if_neg d2, if_pos d3, bP_f (fun z => by have := z.2.2.2; omega)]
          · rw [if_pos d1, if_neg d2, if_neg d3, bP_t ⟨d1, hv, by omega, by omega⟩]
      · rw [if_neg d1, bP_f (fun z => d1 z.1)]
    · constructor
      · rintro ((a | a) | a)
        · exact .inl a
        · exact .inr ⟨hv, .inl a⟩
        · exact .inr ⟨hv, .inr a⟩
      · rintro (a | ⟨_, b | b⟩)
        · exact .inl (.inl a)
        · exact .inl (.inr b)
        · exact .inr b
  · refine ⟨N, ?_, xSame.rf, h.cg (fun k _ => ⟨.inl, fun z => z.elim id fun z => absurd z.1 hv⟩) (fun k _ => ⟨.inl, fun z => z.elim id fun z => absurd z.1.2.1 hv⟩)⟩
    have hle := ndn_le half heap
    have hle2 := ndn_le heap half
    rw [xfix_unf, sX12_knows_145]
    by_cases hz : ndn half heap = 0
    · have hs := ndn_and.mp hz
      have hrest := ndn_add heap half hs
      have hne : ndn heap half ≠ half := fun e => by
        have h3 : half &&& ndn heap half = 0 := Nat.eq_of_testBit_eq fun i => by
          rw [Nat.testBit_and, ndn_bit, Nat.zero_testBit]
          cases half.testBit i <;> simp
        rw [e, Nat.and_self] at h3
        omega
      by_cases hlt : half < ndn heap half
      · have hnp : ¬ prt A (barS A) heap half := fun z => hv ⟨h1, h2, hs, hlt, z⟩
        simp (disch := omega) only [xk_none, xk_inl, xk_inr, xk_ite, xri_v, xrl_v, xrv_v, xb_z0, xb_z1, xb_b2, if_true, if_false, ite_true, ite_false, iZ_lit, iZ_m1, iZ_m99, iZ_m8, iZ_add, iZ_sub, iZ_mul, iZ_neg, nz0, nzi, iZ_lt, iZ_le, iZ_inj, b2_z, b2_o, ite_bPz, ite_bPo, xb_bP, iZ_xin, if_pos, ite_self, ↓reduceIte, Int.reduceAdd, Int.reduceSub, Int.reduceMul, Int.reduceNeg, Int.reduceLT, Int.reduceLE, if_neg, nS, iZ_clampN, iZ_bit, iZ_one, iZ_and, iZ_or, iZ_ndn, hz, m_isParting hA hB (by omega : heap < 512) (by omega : half < 512), hnp]
      · simp (disch := omega) only [xk_none, xk_inl, xk_inr, xk_ite, xri_v, xrl_v, xrv_v, xb_z0, xb_z1, xb_b2, if_true, if_false, ite_true, ite_false, iZ_lit, iZ_m1, iZ_m99, iZ_m8, iZ_add, iZ_sub, iZ_mul, iZ_neg, nz0, nzi, iZ_lt, iZ_le, iZ_inj, b2_z, b2_o, ite_bPz, ite_bPo, xb_bP, iZ_xin, if_pos, ite_self, ↓reduceIte, Int.reduceAdd, Int.reduceSub, Int.reduceMul, Int.reduceNeg, Int.reduceLT, Int.reduceLE, if_neg, nS, iZ_clampN, iZ_bit, iZ_one, iZ_and, iZ_or, iZ_ndn, hz]
    · simp (disch := omega) only [xk_none, xk_inl, xk_inr, xk_ite, xri_v, xrl_v, xrv_v, xb_z0, xb_z1, xb_b2, if_true, if_false, ite_true, ite_false, iZ_lit, iZ_m1, iZ_m99, iZ_m8, iZ_add, iZ_sub, iZ_mul, iZ_neg, nz0, nzi, iZ_lt, iZ_le, iZ_inj, b2_z, b2_o, ite_bPz, ite_bPo, xb_bP, iZ_xin, if_pos, ite_self, ↓reduceIte, Int.reduceAdd, Int.reduceSub, Int.reduceMul, Int.reduceNeg, Int.reduceLT, Int.reduceLE, if_neg, nS, iZ_clampN, iZ_bit, iZ_one, iZ_and, iZ_or, iZ_ndn, hz]
theorem net_heap {A : dA} {N : xM} {n l : Nat → Prop} {heap : Nat} (hA : mA N A) (hB : mB N (barS A)) (hK : cK N A (2 ^ aP A)) (hh : heap < 2 ^ aP A) (h1 : 1 ≤ heap) (h : mkN N n l) (hln : ∀ k, k < 512 → l k → n k) : ∃ N', xfix gX12_knows (127, [some (.inr (.inr (12, 0))), some (.inl (iZ (heap))), none, none, none], [], N) = xfix gX12_knows (127, [some (.inr (.inr (12, 0))), some (.inl (iZ (((heap : Int) - 1)))), none, none, none], [], N') ∧ xSame nR N N' ∧ mkN N' (fun k => n k ∨ (n heap ∧ ∃ half, ptV A heap half ∧ (k = half ∨ k = ndn heap half))) (fun k => l k ∨ (l heap ∧ ∃ half, lvV A heap half ∧ (k = half ∨ k = ndn heap half))) := by
  have hP := pow9 hA.ok.P
  have f := (h heap (by omega)).1
  have em : (heap : Int) + (-1) = (heap : Int) - 1 := by omega
  by_cases hn : n heap
  · obtain ⟨N2, g1, g2, g3⟩ := xfor_M (sg := gX12_knows) (st := fun k M => (145, [some (.inr (.inr (12, 0))), some (.inl (iZ (heap))), some (.inl (iZ (k))), none, none], [], M)) (I := fun k N' => xSame nR N N' ∧ 1 ≤ k ∧ mkN N' (fun x => n x ∨ ∃ half, half < k ∧ ptV A heap half ∧ (x = half ∨ x = ndn heap half)) (fun x => l x ∨ (l heap ∧ ∃ half, half < k ∧ lvV A heap half ∧ (x = half ∨ x = ndn heap half)))) (n := heap) (fun k N' hk hI => by
      obtain ⟨i1, i2, i3⟩ := hI
      have hA' : mA N' A := hA.fr i1 (by decide)
      have hB' := hB.fr i1 (by decide)
      have hK' : cK N' A (2 ^ aP A) := hK.sm i1.sm (by
        intro r hr j
        rcases hr with e | e | e | e | e <;> subst e <;> decide)
      obtain ⟨N'', j1, j2, j3⟩ := net_half hA' hB' hK' hh i2 hk i3
      refine ⟨N'', by rw [nS]; exact j1, i1.tr j2, by omega, j3.cg (fun x _ => ?_) (fun x _ => ?_)⟩
      · constructor
        · rintro ((a | ⟨y, a, b⟩) | ⟨a, b⟩)
          · exact .inl a
          · exact .inr ⟨y, by omega, b⟩
          · exact .inr ⟨k, by omega, a, b⟩
        · rintro (a | ⟨y, a, b, c⟩)
          · exact .inl (.inl a)
          · by_cases e : y = k
            · subst e; exact .inr ⟨b, c⟩
            · exact .inl (.inr ⟨y, by omega, b, c⟩)
      · have hno : ∀ P : Nat → Prop, (l heap ∨ (l heap ∧ ∃ half, P half)) ↔ l heap := fun P => ⟨fun z => z.elim id fun z => z.1, .inl⟩
        rw [hno]
        constructor
        · rintro ((a | ⟨q, y, a, b⟩) | ⟨⟨q, a⟩, b⟩)
          · exact .inl a
          · exact .inr ⟨q, y, by omega, b⟩
          · exact .inr ⟨q, k, by omega, a, b⟩
        · rintro (a | ⟨q, y, a, b, c⟩)
          · exact .inl (.inl a)
          · by_cases e : y = k
            · subst e; exact .inr ⟨⟨q, b⟩, c⟩
            · exact .inl (.inr ⟨q, y, by omega, b, c⟩)) (a := 1) (M := N) h1 ⟨xSame.rf, by omega, h.cg (fun x _ => ⟨.inl, fun z => z.elim id fun ⟨y, a, b, _⟩ => by have := b.1; omega⟩) (fun x _ => ⟨.inl, fun z => z.elim id fun ⟨_, y, a, b, _⟩ => by have := b.1.1; omega⟩)⟩
    refine ⟨N2, ?_, g2, g3.2.cg (fun x _ => ?_) (fun x _ => ?_)⟩
    · have e0 : xfix gX12_knows (127, [some (.inr (.inr (12, 0))), some (.inl (iZ (heap))), none, none, none], [], N) = xfix gX12_knows (145, [some (.inr (.inr (12, 0))), some (.inl (iZ (heap))), some (.inl (iZ (((1 : Nat))))), none, none], [], N) := by
        rw [xfix_unf, sX12_knows_127]
        simp (disch := omega) only [xk_none, xk_inl, xk_inr, xk_ite, xri_v, xrl_v, xrv_v, xb_z0, xb_z1, xb_b2, if_true, if_false, ite_true, ite_false, iZ_lit, iZ_m1, iZ_m99, iZ_m8, iZ_add, iZ_sub, iZ_mul, iZ_neg, nz0, nzi, iZ_lt, iZ_le, iZ_inj, b2_z, b2_o, ite_bPz, ite_bPo, xb_bP, iZ_xin, if_pos, ite_self, ↓reduceIte, Int.reduceAdd, Int.reduceSub, Int.reduceMul, Int.reduceNeg, Int.reduceLT, Int.reduceLE, if_neg, nS, iZ_clampN, iZ_bit, iZ_one, iZ_and, iZ_or, iZ_ndn, f, hn]
        rfl
      rw [e0, g1]
      rw [xfix_unf, sX12_knows_145]
      simp (disch := omega) only [xk_none, xk_inl, xk_inr, xk_ite, xri_v, xrl_v, xrv_v, xb_z0, xb_z1, xb_b2, if_true, if_false, ite_true, ite_false, iZ_lit, iZ_m1, iZ_m99, iZ_m8, iZ_add, iZ_sub, iZ_mul, iZ_neg, nz0, nzi, iZ_lt, iZ_le, iZ_inj, b2_z, b2_o, ite_bPz, ite_bPo, xb_bP, iZ_xin, if_pos, ite_self, ↓reduceIte, Int.reduceAdd, Int.reduceSub, Int.reduceMul, Int.reduceNeg, Int.reduceLT, Int.reduceLE, if_neg, nS, iZ_clampN, iZ_bit, iZ_one, iZ_and, iZ_or, iZ_ndn, em]
    · exact ⟨fun z => z.imp id fun ⟨y, a, b⟩ => ⟨hn, y, b⟩, fun z => z.imp id fun ⟨_, y, b⟩ => ⟨y, (ptV_lt b.1).1, b⟩⟩
    · exact ⟨fun z => z.imp id fun ⟨q, y, a, b⟩ => ⟨q, y, b⟩, fun z => z.imp id fun ⟨q, y, b⟩ => ⟨q, y, (ptV_lt b.1.1).1, b⟩⟩
  · refine ⟨N, ?_, xSame.rf, h.cg (fun x _ => ⟨.inl, fun z => z.elim id fun z => absurd z.1 hn⟩) (fun x _ => ⟨.inl, fun z => z.elim id fun z => absurd (hln heap (by omega) z.1) hn⟩)⟩
    rw [xfix_unf, sX12_knows_127]
    simp (disch := omega) only [xk_none, xk_inl, xk_inr, xk_ite, xri_v, xrl_v, xrv_v, xb_z0, xb_z1, xb_b2, if_true, if_false, ite_true, ite_false, iZ_lit, iZ_m1, iZ_m99, iZ_m8, iZ_add, iZ_sub, iZ_mul, iZ_neg, nz0, nzi, iZ_lt, iZ_le, iZ_inj, b2_z, b2_o, ite_bPz, ite_bPo, xb_bP, iZ_xin, if_pos, ite_self, ↓reduceIte, Int.reduceAdd, Int.reduceSub, Int.reduceMul, Int.reduceNeg, Int.reduceLT, Int.reduceLE, if_neg, nS, iZ_clampN, iZ_bit, iZ_one, iZ_and, iZ_or, iZ_ndn, f, hn, em]
theorem lvV_lt {A : dA} {heap half : Nat} (h : lvV A heap half) : half < heap ∧ ndn heap half < heap := ptV_lt h.1
theorem clo_mono {s s' : Nat → Prop} {V V' : Nat → Nat → Prop} {i k : Nat} (h1 : ∀ k, s k → s' k) (h2 : ∀ a b, V a b → V' a b) (h : clo s V i k) : clo s' V' i k := fun S a b => h S (fun k hk => a k (h1 k hk)) (fun x y z w v => b x y z w (h2 x y v))
theorem net_all {A : dA} {N : xM} (hA : mA N A) (hB : mB N (barS A)) (hK : cK N A (2 ^ aP A)) (h : mkN N (nsS A) (lsS A)) : ∃ N', xfix gX12_knows (127, [some (.inr (.inr (12, 0))), some (.inl (iZ (((2 ^ aP A : Nat) - (1 : Int))))), none, none, none], [], N) = some (none, N') ∧ xSame nR N N' ∧ mkN N' (netA A) (livA A) := by
  have hP := pow9 hA.ok.P
  obtain ⟨N2, g1, g2, g3⟩ := xfor_M (sg := gX12_knows) (st := fun k M => (127, [some (.inr (.inr (12, 0))), some (.inl (iZ (((2 ^ aP A : Nat) - (1 : Int) - k)))), none, none, none], [], M)) (I := fun k N' => xSame nR N N' ∧ mkN N' (clo (nsS A) (ptV A) (2 ^ aP A - 1 - k)) (clo (lsS A) (lvV A) (2 ^ aP A - 1 - k))) (n := 2 ^ aP A - 1) (fun k N' hk hI => by
    obtain ⟨i1, i3⟩ := hI
    have hA' : mA N' A := hA.fr i1 (by decide)
    have hB' := hB.fr i1 (by decide)
    have hK' : cK N' A (2 ^ aP A) := hK.sm i1.sm (by
      intro r hr j
      rcases hr with e | e | e | e | e <;> subst e <;> decide)
    obtain ⟨N'', j1, j2, j3⟩ := net_heap (heap := 2 ^ aP A - 1 - k) hA' hB' hK' (by omega) (by omega) i3 (fun x _ hx => clo_mono (fun k hk => hk.1) (fun a b hab => hab.1) hx)
    have e0 : (2 ^ aP A : Nat) - (1 : Int) - k = ((2 ^ aP A - 1 - k : Nat) : Int) := by omega
    have e1 : (2 ^ aP A : Nat) - (1 : Int) - ((k : Int) + 1) = ((2 ^ aP A - 1 - k : Nat) : Int) - 1 := by omega
    have e2 : 2 ^ aP A - 1 - k = (2 ^ aP A - 1 - (k + 1)) + 1 := by omega
    refine ⟨N'', by rw [nS, e0, e1]; exact j1, i1.tr j2, j3.cg (fun x _ => ?_) (fun x _ => ?_)⟩
    · rw [e2]; exact (clo_step (fun _ _ => ptV_lt)).symm
    · rw [e2]; exact (clo_step (fun _ _ => lvV_lt)).symm) (a := 0) (M := N) (by omega) ⟨xSame.rf, h.cg (fun x _ => (clo_top (fun k hk => by have := hk.2; omega) (fun _ _ => ptV_lt)).symm) (fun x _ => (clo_top (fun k hk => by have := hk.1.2; omega) (fun _ _ => lvV_lt)).symm)⟩
  refine ⟨N2, ?_, g2, g3.cg (fun x _ => by rw [Nat.sub_self]; exact Iff.rfl) (fun x _ => by rw [Nat.sub_self]; exact Iff.rfl)⟩
  have e0 : (2 ^ aP A : Nat) - (1 : Int) - ((0 : Nat) : Int) = (2 ^ aP A : Nat) - (1 : Int) := by omega
  have e1 : (2 ^ aP A : Nat) - (1 : Int) - ((2 ^ aP A - 1 : Nat) : Int) = 0 := by omega
  rw [e0, e1] at g1
  rw [g1]
  rw [xfix_unf, sX12_knows_127]
  simp (disch := omega) only [xk_none, xk_inl, xk_inr, xk_ite, xri_v, xrl_v, xrv_v, xb_z0, xb_z1, xb_b2, if_true, if_false, ite_true, ite_false, iZ_lit, iZ_m1, iZ_m99, iZ_m8, iZ_add, iZ_sub, iZ_mul, iZ_neg, nz0, nzi, iZ_lt, iZ_le, iZ_inj, b2_z, b2_o, ite_bPz, ite_bPo, xb_bP, iZ_xin, if_pos, ite_self, ↓reduceIte, Int.reduceAdd, Int.reduceSub, Int.reduceMul, Int.reduceNeg, Int.reduceLT, Int.reduceLE, if_neg]
theorem m_knows {A : dA} {M : xM} (hA : mA M A) (hH : mH M A) (hf : xI M (12, 0) 31 = iZ 0 ∨ (xI M (12, 0) 31 = iZ 1 ∧ mKn M A)) : ∃ M', fX12_knows [.inr (.inr (12, 0))] M = some (none, M') ∧ xSm kR M M' ∧ xI M' (12, 0) 31 = iZ 1 ∧ mKn M' A ∧ ((M' = M ∧ xI M (12, 0) 31 = iZ 1) ∨ xI M' (12, 0) 82 = iZ 0) := by
  have hP := pow9 hA.ok.P
  have hP9 := hA.ok.P
  rcases hf with hf | ⟨hf, hk⟩
  · have s1 : xSm kR M (xpI (xpI M (12, 0) 31 (iZ 1)) (12, 0) 82 (iZ 0)) := (xSm.rf.pI (by decide)).pI (by decide)
    have hA1 := hA.kr s1
    obtain ⟨M2, a1, a2, a3⟩ := m_findsBars hA1
    have s2 : xSm kR M M2 := s1.tr (a2.sm.wk fun r j z => .inr (.inl z))
    have hA2 := hA.kr s2
    obtain ⟨M3, b1, b2, b3⟩ := m_findsSwollen hA2
    have s3 : xSm kR M M3 := s2.tr (b2.sm.wk fun r j z => .inr (.inr (.inr (.inr (.inr z)))))
    have hA3 := hA.kr s3
    obtain ⟨M4, c1, c2, c3⟩ := xfor_M (sg := gX12_knows) (st := fun k M => (28, [some (.inr (.inr (12, 0))), some (.inl (iZ (k))), none, none, none], [], M)) (I := fun i M' => xSame nR M3 M' ∧ ∀ k, k < i → xI M' (140, 0) k = iZ 0 ∧ xI M' (141, 0) k = iZ 0) (n := 512) (fun i M' hi hI => by
      refine ⟨xpI (xpI M' (140, 0) i (iZ 0)) (141, 0) i (iZ 0), ?_, (hI.1.pI (.inl rfl)).pI (.inr rfl), fun k hk => ?_⟩
      · rw [xfix_unf, sX12_knows_28]
        simp (disch := omega) only [xk_none, xk_inl, xk_inr, xk_ite, xri_v, xrl_v, xrv_v, xb_z0, xb_z1, xb_b2, if_true, if_false, ite_true, ite_false, iZ_lit, iZ_m1, iZ_m99, iZ_m8, iZ_add, iZ_sub, iZ_mul, iZ_neg, nz0, nzi, iZ_lt, iZ_le, iZ_inj, b2_z, b2_o, ite_bPz, ite_bPo, xb_bP, iZ_xin, if_pos, ite_self, ↓reduceIte, Int.reduceAdd, Int.reduceSub, Int.reduceMul, Int.reduceNeg, Int.reduceLT, Int.reduceLE, if_neg, nS, iZ_clampN, iZ_bit, iZ_one, iZ_and, iZ_or, iZ_ndn]
      · rw [xI_pI_ne (by decide), xI_pI, xI_pI]
        by_cases e : k = i
        · rw [if_pos ⟨rfl, e⟩, if_pos ⟨rfl, e⟩]; exact ⟨rfl, rfl⟩
        · rw [if_neg (fun z => e z.2), if_neg (fun z => e z.2), xI_pI_ne (by decide)]
          exact hI.2 k (by omega)) (a := 0) (M := M3) (by omega) ⟨xSame.rf, fun k hk => by omega⟩
    have s4 : xSm kR M M4 := s3.tr (c2.sm.wk fun r j z => .inr (.inr (.inr (z.imp id .inl))))
    have hA4 := hA.kr s4
    have hB4 : mB M4 (barS A) := (a3.fr b2 (by decide)).fr c2 (by decide)
    have hS4 : mSB M4 (sbrS A) := ⟨fun k hk => by rw [(c2 (160, 0) (by decide)).1]; exact b3.1 k hk, b3.2⟩
    have hH4 : mH M4 A := hH.sm s4 (fun j => by simp [kR])
    obtain ⟨M5, d1, d2, d3⟩ := knows_57 hA4 hB4 hH4
    have s5 : xSm kR M M5 := s4.tr (d2.sm.wk fun r j z => .inr (.inr (.inl z)))
    have hA5 := hA.kr s5
    have hB5 := hB4.cr d2
    have hS5 : mSB M5 (sbrS A) := ⟨fun k hk => by rw [(d2 (160, 0) (by decide)).1]; exact hS4.1 k hk, hS4.2⟩
    have hN5 : mkN M5 (fun _ => False) (fun _ => False) := fun k hk => by
      rw [(d2 (140, 0) (by decide)).1, (d2 (141, 0) (by decide)).1, bP_f not_false]
      exact c3 k hk
    have h31 : ∀ M', xSame (fun r => r = (132, 0) ∨ cR r ∨ nR r ∨ r = (160, 0) ∨ r = (161, 0)) (xpI (xpI M (12, 0) 31 (iZ 1)) (12, 0) 82 (iZ 0)) M' → xI M' (12, 0) 31 = iZ 1 ∧ xI M' (12, 0) 82 = iZ 0 := fun M' hs => by
      rw [(hs (12, 0) (by decide)).1, (hs (12, 0) (by decide)).1]
      constructor
      · rw [xI_pI, if_neg (by decide), xI_pI, if_pos ⟨rfl, rfl⟩]
      · rw [xI_pI, if_pos ⟨rfl, rfl⟩]
    have hs5 : xSame (fun r => r = (132, 0) ∨ cR r ∨ nR r ∨ r = (160, 0) ∨ r = (161, 0)) (xpI (xpI M (12, 0) 31 (iZ 1)) (12, 0) 82 (iZ 0)) M5 := (((a2.wk fun r z => .inl z).tr (b2.wk fun r z => .inr (.inr (.inr z)))).tr (c2.wk fun r z => .inr (.inr (.inl z)))).tr (d2.wk fun r z => .inr (.inl z))
    have top : fX12_knows [.inr (.inr (12, 0))] M = xfix gX12_knows (57, [some (.inr (.inr (12, 0))), some (.inl (iZ (((2 ^ aP A : Nat))))), none, none, none], [], M5) := by
      show xfix gX12_knows (0, [some (.inr (.inr (12, 0))), none, none, none, none], [], M) = _; rw [xfix_unf, sX12_knows_0]
      simp (disch := omega) only [xk_none, xk_inl, xk_inr, xk_ite, xri_v, xrl_v, xrv_v, xb_z0, xb_z1, xb_b2, if_true, if_false, ite_true, ite_false, iZ_lit, iZ_m1, iZ_m99, iZ_m8, iZ_add, iZ_sub, iZ_mul, iZ_neg, nz0, nzi, iZ_lt, iZ_le, iZ_inj, b2_z, b2_o, ite_bPz, ite_bPo, xb_bP, iZ_xin, if_pos, ite_self, ↓reduceIte, Int.reduceAdd, Int.reduceSub, Int.reduceMul, Int.reduceNeg, Int.reduceLT, Int.reduceLE, if_neg, hf, a1, b1]
      refine c1.trans (Eq.trans ?_ d1)
      rw [xfix_unf, sX12_knows_28]
      simp (disch := omega) only [xk_none, xk_inl, xk_inr, xk_ite, xri_v, xrl_v, xrv_v, xb_z0, xb_z1, xb_b2, if_true, if_false, ite_true, ite_false, iZ_lit, iZ_m1, iZ_m99, iZ_m8, iZ_add, iZ_sub, iZ_mul, iZ_neg, nz0, nzi, iZ_lt, iZ_le, iZ_inj, b2_z, b2_o, ite_bPz, ite_bPo, xb_bP, iZ_xin, if_pos, ite_self, ↓reduceIte, Int.reduceAdd, Int.reduceSub, Int.reduceMul, Int.reduceNeg, Int.reduceLT, Int.reduceLE, if_neg]
      rfl
    by_cases hp0 : aP A = 0
    · refine ⟨M5, ?_, s5, (h31 M5 hs5).1, ⟨hB5, hS5, d3, hN5.cg (fun k _ => ⟨False.elim, fun z => ?_⟩) (fun k _ => ⟨False.elim, fun z => ?_⟩)⟩, .inr (h31 M5 hs5).2⟩
      · rw [top, xfix_unf, sX12_knows_57, m_whole M5 hA5.P]
        simp (disch := omega) only [xk_none, xk_inl, xk_inr, xk_ite, xri_v, xrl_v, xrv_v, xb_z0, xb_z1, xb_b2, if_true, if_false, ite_true, ite_false, iZ_lit, iZ_m1, iZ_m99, iZ_m8, iZ_add, iZ_sub, iZ_mul, iZ_neg, nz0, nzi, iZ_lt, iZ_le, iZ_inj, b2_z, b2_o, ite_bPz, ite_bPo, xb_bP, iZ_xin, if_pos, ite_self, ↓reduceIte, Int.reduceAdd, Int.reduceSub, Int.reduceMul, Int.reduceNeg, Int.reduceLT, Int.reduceLE, if_neg, hA5.P.1, hp0]
      · exact z (fun _ => False) (fun k hk => hk.1 hp0) (fun _ _ _ h _ => h.elim)
      · exact z (fun _ => False) (fun k hk => hk.1.1 hp0) (fun _ _ _ h _ => h.elim)
    · have hw1 : 2 ^ 1 ≤ 2 ^ aP A := Nat.pow_le_pow_right (by decide) (by omega)
      have f1 := (d3 (2 ^ aP A - 1) (by omega) (by omega)).1
      have b1' := ordA_b A (k := 2 ^ aP A - 1) (by omega) (by omega)
      have ew : ((2 ^ aP A : Nat) : Int) - 1 = ((2 ^ aP A - 1 : Nat) : Int) := by omega
      have hN6 : mkN (xpI (xpI M5 (140, 0) (2 ^ aP A - 1) (iZ 1)) (141, 0) (2 ^ aP A - 1) (bP (0 < ordA A (2 ^ aP A - 1)))) (nsS A) (lsS A) := ((hN5.in (2 ^ aP A - 1)).lv (2 ^ aP A - 1) (0 < ordA A (2 ^ aP A - 1)) (bP_c ⟨.inr, fun z => z.elim False.elim id⟩)).cg (fun k _ => ⟨fun z => z.elim False.elim fun z => ⟨hp0, z⟩, fun z => .inr z.2⟩) (fun k _ => ⟨fun z => z.elim False.elim fun z => ⟨⟨hp0, z.2⟩, by rw [z.2]; exact z.1⟩, fun z => .inr ⟨by have := z.2; rw [z.1.2] at this; exact this, z.1.2⟩⟩)
      have s6 : xSame nR M5 (xpI (xpI M5 (140, 0) (2 ^ aP A - 1) (iZ 1)) (141, 0) (2 ^ aP A - 1) (bP (0 < ordA A (2 ^ aP A - 1)))) := (xSame.rf.pI (.inl rfl)).pI (.inr rfl)
      have hA6 := hA5.fr s6 (by decide)
      have hK6 := d3.sm s6.sm (by
        intro r hr j
        rcases hr with e | e | e | e | e <;> subst e <;> decide)
      obtain ⟨M7, e1, e2, e3⟩ := net_all hA6 (hB5.fr s6 (by decide)) hK6 hN6
      have s7 := s6.tr e2
      have hs7 := hs5.tr (s7.wk fun r z => .inr (.inr (.inl z)))
      refine ⟨M7, ?_, s5.tr (s7.sm.wk fun r j z => .inr (.inr (.inr (z.imp id .inl)))), (h31 M7 hs7).1, ⟨hB5.fr s7 (by decide), ⟨fun k hk => by rw [(s7 (160, 0) (by decide)).1]; exact hS5.1 k hk, hS5.2⟩, hK6.sm e2.sm (by
        intro r hr j
        rcases hr with e | e | e | e | e <;> subst e <;> decide), e3⟩, .inr (h31 M7 hs7).2⟩
      have w0 := m_whole M5 hA5.P
      have w1 := m_whole (xpI M5 (140, 0) (2 ^ aP A - 1) (iZ 1)) (P := aP A) ⟨by rw [xI_pI_ne (by decide)]; exact hA5.P.1, hP9⟩
      have w2 := fun v => m_whole (xpI (xpI M5 (140, 0) (2 ^ aP A - 1) (iZ 1)) (141, 0) (2 ^ aP A - 1) v) (P := aP A) ⟨by rw [xI_pI_ne (by decide), xI_pI_ne (by decide)]; exact hA5.P.1, hP9⟩
      rw [ew] at w0 w1 e1
      rw [top, xfix_unf, sX12_knows_57, w0]
      generalize 2 ^ aP A - 1 = W at *
      by_cases d : 0 < ordA A W
      · rw [bP_t d] at e1
        have w3 := w2 (iZ 1)
        rw [ew] at w3
        simp (disch := omega) only [xk_none, xk_inl, xk_inr, xk_ite, xri_v, xrl_v, xrv_v, xb_z0, xb_z1, xb_b2, if_true, if_false, ite_true, ite_false, iZ_lit, iZ_m1, iZ_m99, iZ_m8, iZ_add, iZ_sub, iZ_mul, iZ_neg, nz0, nzi, iZ_lt, iZ_le, iZ_inj, b2_z, b2_o, ite_bPz, ite_bPo, xb_bP, iZ_xin, if_pos, ite_self, ↓reduceIte, Int.reduceAdd, Int.reduceSub, Int.reduceMul, Int.reduceNeg, Int.reduceLT, Int.reduceLE, if_neg, w0, w1, w3, iZ_clampN, xL_pI, f1, lZ_lit, lZ_cle, hA5.P.1]
        exact e1
      · rw [bP_f d] at e1
        have w3 := w2 (iZ 0)
        rw [ew] at w3
        simp (disch := omega) only [xk_none, xk_inl, xk_inr, xk_ite, xri_v, xrl_v, xrv_v, xb_z0, xb_z1, xb_b2, if_true, if_false, ite_true, ite_false, iZ_lit, iZ_m1, iZ_m99, iZ_m8, iZ_add, iZ_sub, iZ_mul, iZ_neg, nz0, nzi, iZ_lt, iZ_le, iZ_inj, b2_z, b2_o, ite_bPz, ite_bPo, xb_bP, iZ_xin, if_pos, ite_self, ↓reduceIte, Int.reduceAdd, Int.reduceSub, Int.reduceMul, Int.reduceNeg, Int.reduceLT, Int.reduceLE, if_neg, w0, w1, w3, iZ_clampN, xL_pI, f1, lZ_lit, lZ_cle, hA5.P.1]
        exact e1
  · refine ⟨M, ?_, xSm.rf, hf, hk, .inl ⟨rfl, hf⟩⟩
    show xfix gX12_knows (0, [some (.inr (.inr (12, 0))), none, none, none, none], [], M) = _; rw [xfix_unf, sX12_knows_0]
    simp (disch := omega) only [xk_none, xk_inl, xk_inr, xk_ite, xri_v, xrl_v, xrv_v, xb_z0, xb_z1, xb_b2, if_true, if_false, ite_true, ite_false, iZ_lit, iZ_m1, iZ_m99, iZ_m8, iZ_add, iZ_sub, iZ_mul, iZ_neg, nz0, nzi, iZ_lt, iZ_le, iZ_inj, b2_z, b2_o, ite_bPz, ite_bPo, xb_bP, iZ_xin, if_pos, ite_self, ↓reduceIte, Int.reduceAdd, Int.reduceSub, Int.reduceMul, Int.reduceNeg, Int.reduceLT, Int.reduceLE, if_neg, hf]
