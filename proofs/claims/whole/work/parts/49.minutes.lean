/-! the reference: how far till out -/
theorem lst_un (p q : Nat → Prop) (n : Nat) : lst (fun x => p x ∨ q x) n = if lst q n < lst p n then lst q n else lst p n := by
  have h1 := lst_le p n
  have h2 := lst_le q n
  split
  · rename_i h
    exact lst_eq h2 (fun i hi z => z.elim (lst_no p n i (by omega)) (lst_no q n i hi)) (fun h3 => .inr (lst_is q n h3))
  · rename_i h
    exact lst_eq h1 (fun i hi z => z.elim (lst_no p n i hi) (lst_no q n i (by omega))) (fun h3 => .inl (lst_is p n h3))
theorem hst_un (p q : Nat → Prop) : ∀ n, hst (fun x => p x ∨ q x) n = if hst p n < hst q n then hst q n else hst p n
  | 0 => rfl
  | n + 1 => by
    have ih := hst_un p q n
    have h1 := hst_rng p n
    have h2 := hst_rng q n
    unfold hst
    by_cases e1 : p n
    · rw [if_pos (.inl e1), if_pos e1]
      by_cases e2 : q n
      · rw [if_pos e2, if_neg (by omega)]
      · rw [if_neg e2, if_neg (by omega)]
    · by_cases e2 : q n
      · rw [if_pos (.inr e2), if_neg e1, if_pos e2, if_pos (by omega)]
      · rw [if_neg (fun z => z.elim e1 e2), if_neg e1, if_neg e2]; exact ih
theorem md_bit (s i q : Nat) : (s % 2 ^ i).testBit q = (decide (q < i) && s.testBit q) := Nat.testBit_mod_two_pow s i q
theorem inH_md {A : dA} {s i c : Nat} (h : s.testBit i = true) : inH A (s % 2 ^ (i + 1)) c ↔ inH A (s % 2 ^ i) c ∨ inH A (2 ^ i) c := by
  unfold inH
  constructor
  · rintro ⟨p, h1, h2⟩
    rw [md_bit, Bool.and_eq_true, decide_eq_true_iff] at h2
    by_cases e : p = i
    · subst e; exact .inr ⟨p, h1, Nat.testBit_two_pow_self⟩
    · exact .inl ⟨p, h1, by rw [md_bit, Bool.and_eq_true, decide_eq_true_iff]; exact ⟨by omega, h2.2⟩⟩
  · rintro (⟨p, h1, h2⟩ | ⟨p, h1, h2⟩)
    · rw [md_bit, Bool.and_eq_true, decide_eq_true_iff] at h2
      exact ⟨p, h1, by rw [md_bit, Bool.and_eq_true, decide_eq_true_iff]; exact ⟨by omega, h2.2⟩⟩
    · rw [Nat.testBit_two_pow, decide_eq_true_iff] at h2
      subst h2
      exact ⟨i, h1, by rw [md_bit, Bool.and_eq_true, decide_eq_true_iff]; exact ⟨by omega, h⟩⟩
theorem md_no {s i : Nat} (h : ¬ s.testBit i = true) : s % 2 ^ (i + 1) = s % 2 ^ i := by
  refine Nat.eq_of_testBit_eq fun q => ?_
  rw [md_bit, md_bit]
  by_cases e : q = i
  · subst e
    rw [Bool.eq_false_iff.mpr h]
    simp
  · by_cases e2 : q < i
    · simp [e2, show q < i + 1 by omega]
    · simp [e2, show ¬ q < i + 1 by omega]
theorem md_all {s P : Nat} (h : s < 2 ^ P) : s % 2 ^ P = s := Nat.mod_eq_of_lt h
noncomputable def bA (A : dA) (s k : Nat) : Int := if k % 2 = 0 then loA A s (k / 2) else hiA A s (k / 2)
theorem bA_b (A : dA) (s k : Nat) : -1 ≤ bA A s k ∧ bA A s k ≤ 99 := by
  unfold bA
  have h1 : loA A s (k / 2) ≤ 99 := lst_le _ 99
  have h2 := hst_rng (hasA A s (k / 2) 512) 8
  have h3 : hiA A s (k / 2) = hst (hasA A s (k / 2) 512) 8 := rfl
  split <;> omega
theorem hasA_un {A : dA} {s t u a : Nat} (h : ∀ c, inH A u c ↔ inH A s c ∨ inH A t c) : hasA A u a 512 = fun x => hasA A s a 512 x ∨ hasA A t a 512 x := funext fun x => propext ⟨fun ⟨c, h1, h2, h3⟩ => ((h c).mp h2).imp (fun z => ⟨c, h1, z, h3⟩) (fun z => ⟨c, h1, z, h3⟩), fun z => z.elim (fun ⟨c, h1, h2, h3⟩ => ⟨c, h1, (h c).mpr (.inl h2), h3⟩) (fun ⟨c, h1, h2, h3⟩ => ⟨c, h1, (h c).mpr (.inr h2), h3⟩)⟩
def bAn (o p : Int) (k : Nat) : Int := if k % 2 = 0 then (if p < o then p else o) else (if o < p then p else o)
theorem bA_add {A : dA} {s i k : Nat} (h : s.testBit i = true) : bA A (s % 2 ^ (i + 1)) k = bAn (bA A (s % 2 ^ i) k) (bA A (2 ^ i) k) k := by
  unfold bA bAn loA hiA
  rw [hasA_un (fun c => inH_md h), lst_un, hst_un]
  by_cases e : k % 2 = 0
  · rw [if_pos e, if_pos e, if_pos e, if_pos e]
    by_cases e2 : lst (hasA A (2 ^ i) (k / 2) 512) 99 < lst (hasA A (s % 2 ^ i) (k / 2) 512) 99
    · rw [if_pos e2, if_pos (by omega)]
    · rw [if_neg e2, if_neg (by omega)]
  · rw [if_neg e, if_neg e, if_neg e, if_neg e]
theorem bA_0 (A : dA) (k : Nat) : bA A 0 k = if k % 2 = 0 then 99 else -1 := by
  have h : ∀ a, hasA A 0 a 512 = fun _ => False := fun a => funext fun x => propext ⟨fun ⟨c, h1, ⟨p, _, h2⟩, _⟩ => (by rw [Nat.zero_testBit] at h2; cases h2), False.elim⟩
  unfold bA loA hiA
  rw [h, lst_F, hst_F]
  rfl
theorem mLs.pb {M : xM} {A : dA} (h : mLs M A) {q k : Nat} (hq : q < aP A) (hk : k < 6) : xI M (177, 0) (6 * q + k) = iZ (bA A (2 ^ q) k) := by
  have := h.2.2.2 q hq (k / 2) (by omega)
  unfold bA
  by_cases e : k % 2 = 0
  · rw [if_pos e, show 6 * q + k = 6 * q + 2 * (k / 2) by omega]; exact this.1
  · rw [if_neg e, show 6 * q + k = 6 * q + 2 * (k / 2) + 1 by omega]; exact this.2
abbrev tR (r : xR) : Prop := r = (178, 0) ∨ r = (179, 0)
theorem mLs.tr {M M' : xM} {A : dA} (h : mLs M A) (hs : xSame tR M M') : mLs M' A := h.sm hs.sm (by
  intro r hr j
  simp only [List.mem_cons, List.mem_nil_iff, or_false] at hr
  rcases hr with e | e | e <;> subst e <;> decide)
theorem z2 (i : Nat) : (i : Int) - (i : Int) / 2 * 2 = ((i % 2 : Nat) : Int) := by omega
theorem mn_67 {A : dA} {M : xM} (h : mA M A) (hL : mLs M A) {heap half w q s : Nat} (hq : q < aP A) (hb : rw0 M (178, 0) 6 (bA A s)) : ∃ M', xfix gX12_minutesOf (67, [some (.inr (.inr (12, 0))), some (.inl (iZ (heap))), some (.inl (iZ (half))), some (.inl (iZ (w))), some (.inl (iZ (q))), some (.inl (iZ ((0 : Nat)))), none, none, none, none, none, none], [], M) = xfix gX12_minutesOf (39, [some (.inr (.inr (12, 0))), some (.inl (iZ (heap))), some (.inl (iZ (half))), some (.inl (iZ (w))), some (.inl (iZ (((q : Int) + 1)))), none, none, none, none, none, none, none], [], M') ∧ xSame tR M M' ∧ rw0 M' (178, 0) 6 (fun k => bAn (bA A s k) (bA A (2 ^ q) k) k) := by
  have hP := h.ok.P
  obtain ⟨M2, b1, b2, b3⟩ := xfor_M (sg := gX12_minutesOf) (st := fun k M => (67, [some (.inr (.inr (12, 0))), some (.inl (iZ (heap))), some (.inl (iZ (half))), some (.inl (iZ (w))), some (.inl (iZ (q))), some (.inl (iZ (k))), none, none, none, none, none, none], [], M)) (I := fun k N => xSame tR M N ∧ rw0 N (178, 0) 6 (fun j => if j < k then bAn (bA A s j) (bA A (2 ^ q) j) j else bA A s j)) (n := 6) (fun k N hk hN => by
    obtain ⟨n1, n2⟩ := hN
    have hL' := hL.tr n1
    have f1 := hL'.pb hq hk
    have f2 := n2 k hk
    dsimp only at f2
    rw [if_neg (by omega : ¬ k < k)] at f2
    have c1 := bA_b A s k
    have c2 := bA_b A (2 ^ q) k
    have ecl : Int32.toNatClampNeg (iZ (6 * (q : Int) + (k : Int))) = 6 * q + k := by rw [iZ_clamp (by omega)]; omega
    by_cases e : bAn (bA A s k) (bA A (2 ^ q) k) k = bA A s k
    · refine ⟨N, ?_, n1, n2.cg fun j hj => ?_⟩
      · unfold bAn at e
        rw [xfix_unf, sX12_minutesOf_67]
        simp (disch := omega) only [xk_none, xk_inl, xk_inr, xk_ite, xri_v, xrl_v, xrv_v, xb_z0, xb_z1, xb_b2, if_true, if_false, ite_true, ite_false, iZ_lit, iZ_m1, iZ_m99, iZ_m8, iZ_add, iZ_sub, iZ_mul, iZ_neg, nz0, nzi, iZ_lt, iZ_le, iZ_inj, b2_z, b2_o, ite_bPz, ite_bPo, xb_bP, iZ_xin, if_pos, ite_self, ↓reduceIte, Int.reduceAdd, Int.reduceSub, Int.reduceMul, Int.reduceNeg, Int.reduceLT, Int.reduceLE, if_neg, nS, iZ_clampN, iZ_bit, iZ_one, iZ_and, iZ_or, iZ_ndn, iZ_div, z2, ecl, f1, f2]
      · by_cases e2 : j = k
        · subst e2; rw [if_neg (by omega), if_pos (by omega), e]
        · by_cases e3 : j < k
          · rw [if_pos e3, if_pos (by omega)]
          · rw [if_neg e3, if_neg (by omega)]
    · have e4 : bAn (bA A s k) (bA A (2 ^ q) k) k = bA A (2 ^ q) k := by
        unfold bAn at e ⊢
        by_cases e2 : k % 2 = 0
        · rw [if_pos e2] at e ⊢
          split at e
          · rename_i hh; rw [if_pos hh]
          · exact absurd rfl e
        · rw [if_neg e2] at e ⊢
          split at e
          · rename_i hh; rw [if_pos hh]
          · exact absurd rfl e
      refine ⟨xpI N (178, 0) k (iZ (bA A (2 ^ q) k)), ?_, n1.pI (.inl rfl), (n2.put k (bA A (2 ^ q) k)).cg fun j hj => ?_⟩
      · unfold bAn at e
        rw [xfix_unf, sX12_minutesOf_67]
        simp (disch := omega) only [xk_none, xk_inl, xk_inr, xk_ite, xri_v, xrl_v, xrv_v, xb_z0, xb_z1, xb_b2, if_true, if_false, ite_true, ite_false, iZ_lit, iZ_m1, iZ_m99, iZ_m8, iZ_add, iZ_sub, iZ_mul, iZ_neg, nz0, nzi, iZ_lt, iZ_le, iZ_inj, b2_z, b2_o, ite_bPz, ite_bPo, xb_bP, iZ_xin, if_pos, ite_self, ↓reduceIte, Int.reduceAdd, Int.reduceSub, Int.reduceMul, Int.reduceNeg, Int.reduceLT, Int.reduceLE, if_neg, nS, iZ_clampN, iZ_bit, iZ_one, iZ_and, iZ_or, iZ_ndn, iZ_div, z2, ecl, f1, f2]
      · by_cases e2 : j = k
        · subst e2; rw [if_pos rfl, if_pos (by omega), e4]
        · rw [if_neg e2]
          by_cases e3 : j < k
          · rw [if_pos e3, if_pos (by omega)]
          · rw [if_neg e3, if_neg (by omega)]) (a := 0) (M := M) (by omega) ⟨xSame.rf, hb.cg fun j _ => by rw [if_neg (by omega)]⟩
  refine ⟨M2, b1.trans ?_, b2, b3.cg fun j hj => by rw [if_pos hj]⟩
  rw [xfix_unf, sX12_minutesOf_67]
  simp (disch := omega) only [xk_none, xk_inl, xk_inr, xk_ite, xri_v, xrl_v, xrv_v, xb_z0, xb_z1, xb_b2, if_true, if_false, ite_true, ite_false, iZ_lit, iZ_m1, iZ_m99, iZ_m8, iZ_add, iZ_sub, iZ_mul, iZ_neg, nz0, nzi, iZ_lt, iZ_le, iZ_inj, b2_z, b2_o, ite_bPz, ite_bPo, xb_bP, iZ_xin, if_pos, ite_self, ↓reduceIte, Int.reduceAdd, Int.reduceSub, Int.reduceMul, Int.reduceNeg, Int.reduceLT, Int.reduceLE, if_neg]
theorem mn_bounds {A : dA} {M : xM} (h : mA M A) (hL : mLs M A) {heap half w : Nat} (hh : heap < 2 ^ aP A) (h2 : half < 512) (hw : w < 6) : ∃ M', fX12_minutesOf [.inr (.inr (12, 0)), .inl (iZ (heap)), .inl (iZ (half)), .inl (iZ (w))] M = xfix gX12_minutesOf (176, [some (.inr (.inr (12, 0))), none, some (.inl (iZ (half))), some (.inl (iZ (w))), some (.inl (iZ (((w / 2 : Nat))))), some (.inl (iZ ((0 : Nat)))), none, none, none, none, none, none], [], M') ∧ xSame tR M M' ∧ rw0 M' (178, 0) 6 (bA A (ndn heap half)) ∧ ∀ d, d < 17 → xI M' (179, 0) d = iZ 0 := by
  have hP := h.ok.P
  have hp := pow9 hP
  have hnd := ndn_le heap half
  obtain ⟨M1, a1, a2, a3⟩ := xfor_M (sg := gX12_minutesOf) (st := fun k M => (3, [some (.inr (.inr (12, 0))), some (.inl (iZ (heap))), some (.inl (iZ (half))), some (.inl (iZ (w))), some (.inl (iZ (k))), none, none, none, none, none, none, none], [], M)) (I := fun k N => xSame tR M N ∧ ∀ j, j < k → xI N (178, 0) j = iZ (bA A 0 j)) (n := 6) (fun k N hk hN => by
    refine ⟨xpI N (178, 0) k (iZ (bA A 0 k)), ?_, hN.1.pI (.inl rfl), fun j hj => ?_⟩
    · rw [bA_0]
      rw [xfix_unf, sX12_minutesOf_3]
      simp (disch := omega) only [xk_none, xk_inl, xk_inr, xk_ite, xri_v, xrl_v, xrv_v, xb_z0, xb_z1, xb_b2, if_true, if_false, ite_true, ite_false, iZ_lit, iZ_m1, iZ_m99, iZ_m8, iZ_add, iZ_sub, iZ_mul, iZ_neg, nz0, nzi, iZ_lt, iZ_le, iZ_inj, b2_z, b2_o, ite_bPz, ite_bPo, xb_bP, iZ_xin, if_pos, ite_self, ↓reduceIte, Int.reduceAdd, Int.reduceSub, Int.reduceMul, Int.reduceNeg, Int.reduceLT, Int.reduceLE, if_neg, nS, iZ_clampN, iZ_bit, iZ_one, iZ_and, iZ_or, iZ_ndn, iZ_div, z2]
      by_cases e : k % 2 = 0
      · rw [if_pos e, if_pos e]
      · rw [if_neg e, if_neg e]
    · rw [xI_pI]
      by_cases e : j = k
      · rw [if_pos ⟨rfl, e⟩, e]
      · rw [if_neg (fun z => e z.2)]; exact hN.2 j (by omega)) (a := 0) (M := M) (by omega) ⟨xSame.rf, fun j hj => by omega⟩
  obtain ⟨M2, b1, b2, b3⟩ := xfor_M (sg := gX12_minutesOf) (st := fun k M => (39, [some (.inr (.inr (12, 0))), some (.inl (iZ (heap))), some (.inl (iZ (half))), some (.inl (iZ (w))), some (.inl (iZ (k))), none, none, none, none, none, none, none], [], M)) (I := fun k N => xSame tR M N ∧ rw0 N (178, 0) 6 (bA A (ndn heap half % 2 ^ k))) (n := aP A) (fun k N hk hN => by
    obtain ⟨n1, n2⟩ := hN
    have hA' := h.fr n1 (by decide)
    have hL' := hL.tr n1
    have hbz : (ndn heap half &&& 2 ^ k) < 512 := Nat.lt_of_le_of_lt Nat.and_le_left (by omega)
    by_cases e : (ndn heap half).testBit k = true
    · obtain ⟨N', g1, g2, g3⟩ := mn_67 (heap := heap) (half := half) (w := w) hA' hL' hk n2
      refine ⟨N', ?_, n1.tr g2, g3.cg fun j _ => (bA_add e).symm⟩
      have e3 : ¬ ndn heap half &&& 2 ^ k = 0 := fun z => by rw [fb_bit_nat, e] at z; cases z
      rw [nS, ← g1]
      rw [xfix_unf, sX12_minutesOf_39]
      simp (disch := omega) only [xk_none, xk_inl, xk_inr, xk_ite, xri_v, xrl_v, xrv_v, xb_z0, xb_z1, xb_b2, if_true, if_false, ite_true, ite_false, iZ_lit, iZ_m1, iZ_m99, iZ_m8, iZ_add, iZ_sub, iZ_mul, iZ_neg, nz0, nzi, iZ_lt, iZ_le, iZ_inj, b2_z, b2_o, ite_bPz, ite_bPo, xb_bP, iZ_xin, if_pos, ite_self, ↓reduceIte, Int.reduceAdd, Int.reduceSub, Int.reduceMul, Int.reduceNeg, Int.reduceLT, Int.reduceLE, if_neg, nS, iZ_clampN, iZ_bit, iZ_one, iZ_and, iZ_or, iZ_ndn, hA'.P.1, iZ_z, e3]
      rfl
    · refine ⟨N, ?_, n1, by rw [md_no e]; exact n2⟩
      have e3 : ndn heap half &&& 2 ^ k = 0 := by rw [fb_bit_nat]; exact Bool.eq_false_iff.mpr e
      rw [xfix_unf, sX12_minutesOf_39]
      simp (disch := omega) only [xk_none, xk_inl, xk_inr, xk_ite, xri_v, xrl_v, xrv_v, xb_z0, xb_z1, xb_b2, if_true, if_false, ite_true, ite_false, iZ_lit, iZ_m1, iZ_m99, iZ_m8, iZ_add, iZ_sub, iZ_mul, iZ_neg, nz0, nzi, iZ_lt, iZ_le, iZ_inj, b2_z, b2_o, ite_bPz, ite_bPo, xb_bP, iZ_xin, if_pos, ite_self, ↓reduceIte, Int.reduceAdd, Int.reduceSub, Int.reduceMul, Int.reduceNeg, Int.reduceLT, Int.reduceLE, if_neg, nS, iZ_clampN, iZ_bit, iZ_one, iZ_and, iZ_or, iZ_ndn, hA'.P.1, iZ_z, e3]) (a := 0) (M := M1) (by omega) ⟨a2, fun k hk => by rw [show ndn heap half % 2 ^ 0 = 0 by omega]; exact a3 k hk⟩
  rw [md_all (by omega : ndn heap half < 2 ^ aP A)] at b3
  obtain ⟨M3, c1, c2, c3, c4⟩ := xfor_M (sg := gX12_minutesOf) (st := fun k M => (152, [some (.inr (.inr (12, 0))), none, some (.inl (iZ (half))), some (.inl (iZ (w))), some (.inl (iZ (((w / 2 : Nat))))), some (.inl (iZ (k))), none, none, none, none, none, none], [], M)) (I := fun k N => xSame tR M N ∧ rw0 N (178, 0) 6 (bA A (ndn heap half)) ∧ ∀ j, j < k → xI N (179, 0) j = iZ 0) (n := 17) (fun k N hk hN => by
    refine ⟨xpI N (179, 0) k (iZ 0), ?_, hN.1.pI (.inr rfl), hN.2.1.ne (by decide), fun j hj => ?_⟩
    · rw [xfix_unf, sX12_minutesOf_152]
      simp (disch := omega) only [xk_none, xk_inl, xk_inr, xk_ite, xri_v, xrl_v, xrv_v, xb_z0, xb_z1, xb_b2, if_true, if_false, ite_true, ite_false, iZ_lit, iZ_m1, iZ_m99, iZ_m8, iZ_add, iZ_sub, iZ_mul, iZ_neg, nz0, nzi, iZ_lt, iZ_le, iZ_inj, b2_z, b2_o, ite_bPz, ite_bPo, xb_bP, iZ_xin, if_pos, ite_self, ↓reduceIte, Int.reduceAdd, Int.reduceSub, Int.reduceMul, Int.reduceNeg, Int.reduceLT, Int.reduceLE, if_neg, nS, iZ_clampN, iZ_bit, iZ_one, iZ_and, iZ_or, iZ_ndn]
    · rw [xI_pI]
      by_cases e : j = k
      · rw [if_pos ⟨rfl, e⟩]
      · rw [if_neg (fun z => e z.2)]; exact hN.2.2 j (by omega)) (a := 0) (M := M2) (by omega) ⟨b2, b3, fun j hj => by omega⟩
  refine ⟨M3, ?_, c2, c3, c4⟩
  have hA2 := h.fr b2 (by decide)
  have ew : (w : Int) / 2 = ((w / 2 : Nat) : Int) := by omega
  show xfix gX12_minutesOf (0, [some (.inr (.inr (12, 0))), some (.inl (iZ (heap))), some (.inl (iZ (half))), some (.inl (iZ (w))), none, none, none, none, none, none, none, none], [], M) = _; rw [xfix_unf, sX12_minutesOf_0]
  simp (disch := omega) only [xk_none, xk_inl, xk_inr, xk_ite, xri_v, xrl_v, xrv_v, xb_z0, xb_z1, xb_b2, if_true, if_false, ite_true, ite_false, iZ_lit, iZ_m1, iZ_m99, iZ_m8, iZ_add, iZ_sub, iZ_mul, iZ_neg, nz0, nzi, iZ_lt, iZ_le, iZ_inj, b2_z, b2_o, ite_bPz, ite_bPo, xb_bP, iZ_xin, if_pos, ite_self, ↓reduceIte, Int.reduceAdd, Int.reduceSub, Int.reduceMul, Int.reduceNeg, Int.reduceLT, Int.reduceLE, if_neg]
  refine a1.trans (Eq.trans ?_ (b1.trans (Eq.trans ?_ (c1.trans ?_))))
  · rw [xfix_unf, sX12_minutesOf_3]
    simp (disch := omega) only [xk_none, xk_inl, xk_inr, xk_ite, xri_v, xrl_v, xrv_v, xb_z0, xb_z1, xb_b2, if_true, if_false, ite_true, ite_false, iZ_lit, iZ_m1, iZ_m99, iZ_m8, iZ_add, iZ_sub, iZ_mul, iZ_neg, nz0, nzi, iZ_lt, iZ_le, iZ_inj, b2_z, b2_o, ite_bPz, ite_bPo, xb_bP, iZ_xin, if_pos, ite_self, ↓reduceIte, Int.reduceAdd, Int.reduceSub, Int.reduceMul, Int.reduceNeg, Int.reduceLT, Int.reduceLE, if_neg]
    rfl
  · rw [xfix_unf, sX12_minutesOf_39]
    simp (disch := omega) only [xk_none, xk_inl, xk_inr, xk_ite, xri_v, xrl_v, xrv_v, xb_z0, xb_z1, xb_b2, if_true, if_false, ite_true, ite_false, iZ_lit, iZ_m1, iZ_m99, iZ_m8, iZ_add, iZ_sub, iZ_mul, iZ_neg, nz0, nzi, iZ_lt, iZ_le, iZ_inj, b2_z, b2_o, ite_bPz, ite_bPo, xb_bP, iZ_xin, if_pos, ite_self, ↓reduceIte, Int.reduceAdd, Int.reduceSub, Int.reduceMul, Int.reduceNeg, Int.reduceLT, Int.reduceLE, if_neg, hA2.P.1, iZ_div, ew]
    rfl
  · rw [xfix_unf, sX12_minutesOf_152]
    simp (disch := omega) only [xk_none, xk_inl, xk_inr, xk_ite, xri_v, xrl_v, xrv_v, xb_z0, xb_z1, xb_b2, if_true, if_false, ite_true, ite_false, iZ_lit, iZ_m1, iZ_m99, iZ_m8, iZ_add, iZ_sub, iZ_mul, iZ_neg, nz0, nzi, iZ_lt, iZ_le, iZ_inj, b2_z, b2_o, ite_bPz, ite_bPo, xb_bP, iZ_xin, if_pos, ite_self, ↓reduceIte, Int.reduceAdd, Int.reduceSub, Int.reduceMul, Int.reduceNeg, Int.reduceLT, Int.reduceLE, if_neg]
    rfl
/-- a cell, moved so far, is within the bounds of the rest -/
def gdc (A : dA) (rest w c d : Nat) : Prop := ∀ a, a < 3 → bA A rest (2 * a) ≤ alg c a + d * stp w a ∧ alg c a + d * stp w a ≤ bA A rest (2 * a + 1)
def wth (A : dA) (rest half w d : Nat) : Prop := ∃ c, c < 512 ∧ inH A half c ∧ gdc A rest w c d
noncomputable def mnt (A : dA) (heap half w : Nat) : Nat := lst (fun d => ¬ wth A (ndn heap half) half w d) 17
def bsd (A : dA) (rest c axis i : Nat) : Prop := ∀ a, a < i → a = axis ∨ (bA A rest (2 * a) ≤ alg c a ∧ alg c a ≤ bA A rest (2 * a + 1))
theorem m_isBeside {A : dA} {M : xM} {rest c axis : Nat} (hb : rw0 M (178, 0) 6 (bA A rest)) (hc : c < 512) (ha : axis < 3) : fX12_isBeside [.inr (.inr (12, 0)), .inl (iZ (c)), .inl (iZ (axis))] M = some (some (.inl (bP (bsd A rest c axis 3))), M) := by
  show xfix gX12_isBeside (0, [some (.inr (.inr (12, 0))), some (.inl (iZ (c))), some (.inl (iZ (axis))), none, none], [], M) = _; rw [xfix_unf, sX12_isBeside_0]
  simp (disch := omega) only [xk_none, xk_inl, xk_inr, xk_ite, xri_v, xrl_v, xrv_v, xb_z0, xb_z1, xb_b2, if_true, if_false, ite_true, ite_false, iZ_lit, iZ_m1, iZ_m99, iZ_m8, iZ_add, iZ_sub, iZ_mul, iZ_neg, nz0, nzi, iZ_lt, iZ_le, iZ_inj, b2_z, b2_o, ite_bPz, ite_bPo, xb_bP, iZ_xin, if_pos, ite_self, ↓reduceIte, Int.reduceAdd, Int.reduceSub, Int.reduceMul, Int.reduceNeg, Int.reduceLT, Int.reduceLE, if_neg, nS, iZ_clampN, iZ_bit, iZ_one, iZ_and, iZ_or, iZ_ndn]
  have hl := xfor_F (sg := gX12_isBeside) (fun i => (5, [some (.inr (.inr (12, 0))), some (.inl (iZ (c))), some (.inl (iZ (axis))), some (.inl (bP ((bsd A rest c axis i)))), some (.inl (iZ (i)))], [], M)) (a := 0) (n := 3) (by omega) (fun i _ hi => by
    have b1 := bA_b A rest (2 * i)
    have b2 := bA_b A rest (2 * i + 1)
    have b3 := alg_lt hc i
    have f1 := hb (2 * i) (by omega)
    have f2 := hb (2 * i + 1) (by omega)
    have ecl : Int32.toNatClampNeg (iZ (2 * (i : Int))) = 2 * i := by rw [iZ_clamp (by omega)]; omega
    have ecl2 : Int32.toNatClampNeg (iZ (2 * (i : Int) + 1)) = 2 * i + 1 := by rw [iZ_clamp (by omega)]; omega
    rw [xfix_unf, sX12_isBeside_5]
    simp (disch := omega) only [xk_none, xk_inl, xk_inr, xk_ite, xri_v, xrl_v, xrv_v, xb_z0, xb_z1, xb_b2, if_true, if_false, ite_true, ite_false, iZ_lit, iZ_m1, iZ_m99, iZ_m8, iZ_add, iZ_sub, iZ_mul, iZ_neg, nz0, nzi, iZ_lt, iZ_le, iZ_inj, b2_z, b2_o, ite_bPz, ite_bPo, xb_bP, iZ_xin, if_pos, ite_self, ↓reduceIte, Int.reduceAdd, Int.reduceSub, Int.reduceMul, Int.reduceNeg, Int.reduceLT, Int.reduceLE, if_neg, nS, iZ_clampN, iZ_bit, iZ_one, iZ_and, iZ_or, iZ_ndn, m_along M hc hi, ecl, ecl2, f1, f2, m_isIn]
    by_cases e1 : bsd A rest c axis i
    · rw [if_pos e1]
      by_cases e2 : i = axis
      · rw [if_pos e2, bP_t (c := bsd A rest c axis (i + 1)) (fun a ha => by
          by_cases e3 : a = i
          · exact .inl (e3.trans e2)
          · exact e1 a (by omega))]
      · rw [if_neg e2]
        by_cases e3 : bA A rest (2 * i) ≤ alg c i ∧ (alg c i : Int) ≤ bA A rest (2 * i + 1)
        · rw [if_pos e3, bP_t (c := bsd A rest c axis (i + 1)) (fun a ha => by
            by_cases e4 : a = i
            · subst e4; exact .inr e3
            · exact e1 a (by omega))]
        · rw [if_neg e3, bP_f (c := bsd A rest c axis (i + 1)) (fun z => (z i (by omega)).elim e2 e3)]
    · rw [if_neg e1, bP_f (c := bsd A rest c axis (i + 1)) (fun z => e1 fun a ha => z a (by omega))])
  have e0 : bP (bsd A rest c axis 0) = iZ 1 := bP_t (fun a ha => by omega)
  rw [e0] at hl
  refine hl.trans ?_
  rw [xfix_unf, sX12_isBeside_5]
  simp (disch := omega) only [xk_none, xk_inl, xk_inr, xk_ite, xri_v, xrl_v, xrv_v, xb_z0, xb_z1, xb_b2, if_true, if_false, ite_true, ite_false, iZ_lit, iZ_m1, iZ_m99, iZ_m8, iZ_add, iZ_sub, iZ_mul, iZ_neg, nz0, nzi, iZ_lt, iZ_le, iZ_inj, b2_z, b2_o, ite_bPz, ite_bPo, xb_bP, iZ_xin, if_pos, ite_self, ↓reduceIte, Int.reduceAdd, Int.reduceSub, Int.reduceMul, Int.reduceNeg, Int.reduceLT, Int.reduceLE, if_neg]
def mkW (M : xM) (W : Nat → Prop) : Prop := ∀ d, d < 17 → xI M (179, 0) d = bP (W d)
theorem mkW.cg {M : xM} {W W' : Nat → Prop} (h : mkW M W) (hw : ∀ d, d < 17 → (W d ↔ W' d)) : mkW M W' := fun d hd => by rw [← bP_c (hw d hd)]; exact h d hd
theorem mn_337 {M : xM} {half w ax q i : Nat} {to : Int} (ht : -200 ≤ to ∧ to ≤ 200) : ∀ (n d : Nat) (N : xM) (W : Nat → Prop), d + n = 17 → xSame (fun r => r = (179, 0)) M N → mkW N W → ∃ N', xfix gX12_minutesOf (337, [some (.inr (.inr (12, 0))), none, some (.inl (iZ (half))), some (.inl (iZ (w))), some (.inl (iZ (ax))), some (.inl (iZ (q))), some (.inl (iZ (i))), none, none, none, some (.inl (iZ (to))), some (.inl (iZ (d)))], [], N) = xfix gX12_minutesOf (194, [some (.inr (.inr (12, 0))), none, some (.inl (iZ (half))), some (.inl (iZ (w))), some (.inl (iZ (ax))), some (.inl (iZ (q))), some (.inl (iZ (((i : Int) + 1)))), none, none, none, none, none], [], N') ∧ xSame (fun r => r = (179, 0)) M N' ∧ mkW N' (fun x => W x ∨ (d ≤ x ∧ (x : Int) ≤ to))
  | 0, d, N, W, hd, hs, hW => by
    refine ⟨N, ?_, hs, hW.cg fun x hx => ⟨.inl, fun z => z.elim id fun z => by omega⟩⟩
    rw [xfix_unf, sX12_minutesOf_337]
    simp (disch := omega) only [xk_none, xk_inl, xk_inr, xk_ite, xri_v, xrl_v, xrv_v, xb_z0, xb_z1, xb_b2, if_true, if_false, ite_true, ite_false, iZ_lit, iZ_m1, iZ_m99, iZ_m8, iZ_add, iZ_sub, iZ_mul, iZ_neg, nz0, nzi, iZ_lt, iZ_le, iZ_inj, b2_z, b2_o, ite_bPz, ite_bPo, xb_bP, iZ_xin, if_pos, ite_self, ↓reduceIte, Int.reduceAdd, Int.reduceSub, Int.reduceMul, Int.reduceNeg, Int.reduceLT, Int.reduceLE, if_neg, nS, iZ_clampN, iZ_bit, iZ_one, iZ_and, iZ_or, iZ_ndn]
  | n + 1, d, N, W, hd, hs, hW => by
    by_cases e : to < d
    · refine ⟨N, ?_, hs, hW.cg fun x hx => ⟨.inl, fun z => z.elim id fun z => by omega⟩⟩
      rw [xfix_unf, sX12_minutesOf_337]
      simp (disch := omega) only [xk_none, xk_inl, xk_inr, xk_ite, xri_v, xrl_v, xrv_v, xb_z0, xb_z1, xb_b2, if_true, if_false, ite_true, ite_false, iZ_lit, iZ_m1, iZ_m99, iZ_m8, iZ_add, iZ_sub, iZ_mul, iZ_neg, nz0, nzi, iZ_lt, iZ_le, iZ_inj, b2_z, b2_o, ite_bPz, ite_bPo, xb_bP, iZ_xin, if_pos, ite_self, ↓reduceIte, Int.reduceAdd, Int.reduceSub, Int.reduceMul, Int.reduceNeg, Int.reduceLT, Int.reduceLE, if_neg, nS, iZ_clampN, iZ_bit, iZ_one, iZ_and, iZ_or, iZ_ndn]
    · have hW2 : mkW (xpI N (179, 0) d (iZ 1)) (fun x => W x ∨ x = d) := fun x hx => by
        rw [xI_pI]
        by_cases e2 : x = d
        · rw [if_pos ⟨rfl, e2⟩, bP_t (.inr e2)]
        · rw [if_neg (fun z => e2 z.2), hW x hx]
          exact bP_c ⟨.inl, fun z => z.elim id (fun z => absurd z e2)⟩
      obtain ⟨N', g1, g2, g3⟩ := mn_337 (half := half) (w := w) (ax := ax) (q := q) (i := i) ht n (d + 1) _ _ (by omega) (hs.pI rfl) hW2
      refine ⟨N', ?_, g2, g3.cg fun x hx => ?_⟩
      · rw [← g1]
        rw [xfix_unf, sX12_minutesOf_337]
        simp (disch := omega) only [xk_none, xk_inl, xk_inr, xk_ite, xri_v, xrl_v, xrv_v, xb_z0, xb_z1, xb_b2, if_true, if_false, ite_true, ite_false, iZ_lit, iZ_m1, iZ_m99, iZ_m8, iZ_add, iZ_sub, iZ_mul, iZ_neg, nz0, nzi, iZ_lt, iZ_le, iZ_inj, b2_z, b2_o, ite_bPz, ite_bPo, xb_bP, iZ_xin, if_pos, ite_self, ↓reduceIte, Int.reduceAdd, Int.reduceSub, Int.reduceMul, Int.reduceNeg, Int.reduceLT, Int.reduceLE, if_neg, nS, iZ_clampN, iZ_bit, iZ_one, iZ_and, iZ_or, iZ_ndn]
      · constructor
        · rintro ((a | a) | a)
          · exact .inl a
          · exact .inr (by omega)
          · exact .inr (by omega)
        · rintro (a | a)
          · exact .inl (.inl a)
          · by_cases e2 : x = d
            · exact .inl (.inr e2)
            · exact .inr (by omega)
theorem stp_ax {w a : Nat} (hw : w < 6) (ha : a < 3) : stp w a = if a = w / 2 then (if w % 2 = 0 then 1 else -1) else 0 := by
  rcases w6 hw with e | e | e | e | e | e <;> subst e <;> rcases (by omega : a = 0 ∨ a = 1 ∨ a = 2) with e | e | e <;> subst e <;> rfl
theorem gdc_iff {A : dA} {rest w c d : Nat} (hw : w < 6) : gdc A rest w c d ↔ bsd A rest c (w / 2) 3 ∧ (if w % 2 = 0 then bA A rest (2 * (w / 2)) - alg c (w / 2) else alg c (w / 2) - bA A rest (2 * (w / 2) + 1)) ≤ d ∧ (d : Int) ≤ (if w % 2 = 0 then bA A rest (2 * (w / 2) + 1) - alg c (w / 2) else alg c (w / 2) - bA A rest (2 * (w / 2))) := by
  constructor
  · intro h
    refine ⟨fun a ha => ?_, ?_⟩
    · by_cases e : a = w / 2
      · exact .inl e
      · have := h a ha
        rw [stp_ax hw ha, if_neg e, Int.mul_zero, Int.add_zero] at this
        exact .inr this
    · have := h (w / 2) (by omega)
      rw [stp_ax hw (by omega), if_pos rfl] at this
      by_cases e : w % 2 = 0
      · rw [if_pos e] at this ⊢
        rw [if_pos e]
        omega
      · rw [if_neg e] at this ⊢
        rw [if_neg e]
        omega
  · rintro ⟨h1, h2⟩ a ha
    rw [stp_ax hw ha]
    by_cases e : a = w / 2
    · rw [if_pos e, e]
      by_cases e2 : w % 2 = 0
      · rw [if_pos e2] at h2 ⊢
        rw [if_pos e2] at h2
        omega
      · rw [if_neg e2] at h2 ⊢
        rw [if_neg e2] at h2
        omega
    · rw [if_neg e, Int.mul_zero, Int.add_zero]
      exact (h1 a ha).resolve_left e
theorem mn_cell {A : dA} {M : xM} {rest half w q i c : Nat} {W : Nat → Prop} (h : mA M A) (hL : mLs M A) (hb : rw0 M (178, 0) 6 (bA A rest)) (hW : mkW M W) (hh : half < 512) (hw : w < 6) (hq : q < aP A) (hq2 : half.testBit q = true) (hi : i < bgn A (q + 1)) (hc : c < 512) (hic : xI M (175, 0) i = iZ c) : ∃ M', xfix gX12_minutesOf (194, [some (.inr (.inr (12, 0))), none, some (.inl (iZ (half))), some (.inl (iZ (w))), some (.inl (iZ (((w / 2 : Nat))))), some (.inl (iZ (q))), some (.inl (iZ (i))), none, none, none, none, none], [], M) = xfix gX12_minutesOf (194, [some (.inr (.inr (12, 0))), none, some (.inl (iZ (half))), some (.inl (iZ (w))), some (.inl (iZ (((w / 2 : Nat))))), some (.inl (iZ (q))), some (.inl (iZ (((i : Int) + 1)))), none, none, none, none, none], [], M') ∧ xSame (fun r => r = (179, 0)) M M' ∧ mkW M' (fun d => W d ∨ gdc A rest w c d) := by
  have hP := h.ok.P
  have hbl := bgn_le A (q + 1)
  have f1 := hL.1 (q + 1) (by omega)
  have eq1 : Int32.toNatClampNeg (iZ ((q : Int) + 1)) = q + 1 := by rw [iZ_clamp (by omega)]; omega
  by_cases e1 : bsd A rest c (w / 2) 3
  · have b1 := bA_b A rest (2 * (w / 2))
    have b2 := bA_b A rest (2 * (w / 2) + 1)
    have b3 := alg_lt hc (w / 2)
    have g1 := hb (2 * (w / 2)) (by omega)
    have g2 := hb (2 * (w / 2) + 1) (by omega)
    have ecl : Int32.toNatClampNeg (iZ (2 * ((w / 2 : Nat) : Int))) = 2 * (w / 2) := by rw [iZ_clamp (by omega)]; omega
    have ecl2 : Int32.toNatClampNeg (iZ (2 * ((w / 2 : Nat) : Int) + 1)) = 2 * (w / 2) + 1 := by rw [iZ_clamp (by omega)]; omega
    have hv : (w / 2 : Nat) < 3 := by omega
    have hgd := fun d => gdc_iff (A := A) (rest := rest) (c := c) (d := d) hw
    have key : ∀ from' to' : Int, -200 ≤ from' ∧ from' ≤ 200 → -200 ≤ to' ∧ to' ≤ 200 → (∀ d, gdc A rest w c d ↔ from' ≤ d ∧ (d : Int) ≤ to') → (xfix gX12_minutesOf (194, [some (.inr (.inr (12, 0))), none, some (.inl (iZ (half))), some (.inl (iZ (w))), some (.inl (iZ (((w / 2 : Nat))))), some (.inl (iZ (q))), some (.inl (iZ (i))), none, none, none, none, none], [], M) = if 0 ≤ from' then xfix gX12_minutesOf (337, [some (.inr (.inr (12, 0))), none, some (.inl (iZ (half))), some (.inl (iZ (w))), some (.inl (iZ (((w / 2 : Nat))))), some (.inl (iZ (q))), some (.inl (iZ (i))), none, none, none, some (.inl (iZ (to'))), some (.inl (iZ (from')))], [], M) else xfix gX12_minutesOf (337, [some (.inr (.inr (12, 0))), none, some (.inl (iZ (half))), some (.inl (iZ (w))), some (.inl (iZ (((w / 2 : Nat))))), some (.inl (iZ (q))), some (.inl (iZ (i))), none, none, none, some (.inl (iZ (to'))), some (.inl (iZ ((0 : Int))))], [], M)) → ∃ M', xfix gX12_minutesOf (194, [some (.inr (.inr (12, 0))), none, some (.inl (iZ (half))), some (.inl (iZ (w))), some (.inl (iZ (((w / 2 : Nat))))), some (.inl (iZ (q))), some (.inl (iZ (i))), none, none, none, none, none], [], M) = xfix gX12_minutesOf (194, [some (.inr (.inr (12, 0))), none, some (.inl (iZ (half))), some (.inl (iZ (w))), some (.inl (iZ (((w / 2 : Nat))))), some (.inl (iZ (q))), some (.inl (iZ (((i : Int) + 1)))), none, none, none, none, none], [], M') ∧ xSame (fun r => r = (179, 0)) M M' ∧ mkW M' (fun d => W d ∨ gdc A rest w c d) := fun from' to' k1 k2 k3 k4 => by
      by_cases z0 : 0 ≤ from'
      · obtain ⟨d, rfl⟩ : ∃ d : Nat, from' = d := ⟨from'.toNat, by omega⟩
        rw [if_pos z0] at k4
        by_cases z1 : d ≤ 17
        · obtain ⟨M', x1, x2, x3⟩ := mn_337 (half := half) (w := w) (ax := w / 2) (q := q) (i := i) k2 (17 - d) d M W (by omega) xSame.rf hW
          exact ⟨M', k4.trans x1, x2, x3.cg fun x hx => or_congr Iff.rfl (by rw [k3]; omega)⟩
        · refine ⟨M, k4.trans ?_, xSame.rf, hW.cg fun x hx => ⟨.inl, fun z => z.elim id fun z => by rw [k3] at z; omega⟩⟩
          rw [xfix_unf, sX12_minutesOf_337]
          by_cases z2 : to' < d
          · simp (disch := omega) only [xk_none, xk_inl, xk_inr, xk_ite, xri_v, xrl_v, xrv_v, xb_z0, xb_z1, xb_b2, if_true, if_false, ite_true, ite_false, iZ_lit, iZ_m1, iZ_m99, iZ_m8, iZ_add, iZ_sub, iZ_mul, iZ_neg, nz0, nzi, iZ_lt, iZ_le, iZ_inj, b2_z, b2_o, ite_bPz, ite_bPo, xb_bP, iZ_xin, if_pos, ite_self, ↓reduceIte, Int.reduceAdd, Int.reduceSub, Int.reduceMul, Int.reduceNeg, Int.reduceLT, Int.reduceLE, if_neg, nS, iZ_clampN, iZ_bit, iZ_one, iZ_and, iZ_or, iZ_ndn]
          · simp (disch := omega) only [xk_none, xk_inl, xk_inr, xk_ite, xri_v, xrl_v, xrv_v, xb_z0, xb_z1, xb_b2, if_true, if_false, ite_true, ite_false, iZ_lit, iZ_m1, iZ_m99, iZ_m8, iZ_add, iZ_sub, iZ_mul, iZ_neg, nz0, nzi, iZ_lt, iZ_le, iZ_inj, b2_z, b2_o, ite_bPz, ite_bPo, xb_bP, iZ_xin, if_pos, ite_self, ↓reduceIte, Int.reduceAdd, Int.reduceSub, Int.reduceMul, Int.reduceNeg, Int.reduceLT, Int.reduceLE, if_neg, nS, iZ_clampN, iZ_bit, iZ_one, iZ_and, iZ_or, iZ_ndn]
      · rw [if_neg z0] at k4
        obtain ⟨M', x1, x2, x3⟩ := mn_337 (half := half) (w := w) (ax := w / 2) (q := q) (i := i) k2 17 0 M W (by omega) xSame.rf hW
        exact ⟨M', k4.trans x1, x2, x3.cg fun x hx => or_congr Iff.rfl (by rw [k3]; omega)⟩
    by_cases e2 : w % 2 = 0
    · refine key (bA A rest (2 * (w / 2)) - alg c (w / 2)) (bA A rest (2 * (w / 2) + 1) - alg c (w / 2)) (by omega) (by omega) (fun d => by rw [hgd, if_pos e2, if_pos e2]; exact ⟨fun z => z.2, fun z => ⟨e1, z⟩⟩) ?_
      rw [xfix_unf, sX12_minutesOf_194]
      simp (disch := omega) only [xk_none, xk_inl, xk_inr, xk_ite, xri_v, xrl_v, xrv_v, xb_z0, xb_z1, xb_b2, if_true, if_false, ite_true, ite_false, iZ_lit, iZ_m1, iZ_m99, iZ_m8, iZ_add, iZ_sub, iZ_mul, iZ_neg, nz0, nzi, iZ_lt, iZ_le, iZ_inj, b2_z, b2_o, ite_bPz, ite_bPo, xb_bP, iZ_xin, if_pos, ite_self, ↓reduceIte, Int.reduceAdd, Int.reduceSub, Int.reduceMul, Int.reduceNeg, Int.reduceLT, Int.reduceLE, if_neg, nS, iZ_clampN, iZ_bit, iZ_one, iZ_and, iZ_or, iZ_ndn, eq1, f1, hq2, hic, m_isBeside hb hc hv, e1, m_along M hc hv, iZ_div, z2, e2, ecl, g1]
      rw [xfix_unf, sX12_minutesOf_285]
      simp (disch := omega) only [xk_none, xk_inl, xk_inr, xk_ite, xri_v, xrl_v, xrv_v, xb_z0, xb_z1, xb_b2, if_true, if_false, ite_true, ite_false, iZ_lit, iZ_m1, iZ_m99, iZ_m8, iZ_add, iZ_sub, iZ_mul, iZ_neg, nz0, nzi, iZ_lt, iZ_le, iZ_inj, b2_z, b2_o, ite_bPz, ite_bPo, xb_bP, iZ_xin, if_pos, ite_self, ↓reduceIte, Int.reduceAdd, Int.reduceSub, Int.reduceMul, Int.reduceNeg, Int.reduceLT, Int.reduceLE, if_neg, nS, iZ_clampN, iZ_bit, iZ_one, iZ_and, iZ_or, iZ_ndn, iZ_div, z2, e2, ecl2, g2]
    · refine key (alg c (w / 2) - bA A rest (2 * (w / 2) + 1)) (alg c (w / 2) - bA A rest (2 * (w / 2))) (by omega) (by omega) (fun d => by rw [hgd, if_neg e2, if_neg e2]; exact ⟨fun z => z.2, fun z => ⟨e1, z⟩⟩) ?_
      rw [xfix_unf, sX12_minutesOf_194]
      simp (disch := omega) only [xk_none, xk_inl, xk_inr, xk_ite, xri_v, xrl_v, xrv_v, xb_z0, xb_z1, xb_b2, if_true, if_false, ite_true, ite_false, iZ_lit, iZ_m1, iZ_m99, iZ_m8, iZ_add, iZ_sub, iZ_mul, iZ_neg, nz0, nzi, iZ_lt, iZ_le, iZ_inj, b2_z, b2_o, ite_bPz, ite_bPo, xb_bP, iZ_xin, if_pos, ite_self, ↓reduceIte, Int.reduceAdd, Int.reduceSub, Int.reduceMul, Int.reduceNeg, Int.reduceLT, Int.reduceLE, if_neg, nS, iZ_clampN, iZ_bit, iZ_one, iZ_and, iZ_or, iZ_ndn, eq1, f1, hq2, hic, m_isBeside hb hc hv, e1, m_along M hc hv, iZ_div, z2, e2, ecl2, g2]
      rw [xfix_unf, sX12_minutesOf_285]
      simp (disch := omega) only [xk_none, xk_inl, xk_inr, xk_ite, xri_v, xrl_v, xrv_v, xb_z0, xb_z1, xb_b2, if_true, if_false, ite_true, ite_false, iZ_lit, iZ_m1, iZ_m99, iZ_m8, iZ_add, iZ_sub, iZ_mul, iZ_neg, nz0, nzi, iZ_lt, iZ_le, iZ_inj, b2_z, b2_o, ite_bPz, ite_bPo, xb_bP, iZ_xin, if_pos, ite_self, ↓reduceIte, Int.reduceAdd, Int.reduceSub, Int.reduceMul, Int.reduceNeg, Int.reduceLT, Int.reduceLE, if_neg, nS, iZ_clampN, iZ_bit, iZ_one, iZ_and, iZ_or, iZ_ndn, iZ_div, z2, e2, ecl, g1]
  · refine ⟨M, ?_, xSame.rf, hW.cg fun x hx => ⟨.inl, fun z => z.elim id fun z => absurd ((gdc_iff hw).mp z).1 e1⟩⟩
    have hv : (w / 2 : Nat) < 3 := by omega
    rw [xfix_unf, sX12_minutesOf_194]
    simp (disch := omega) only [xk_none, xk_inl, xk_inr, xk_ite, xri_v, xrl_v, xrv_v, xb_z0, xb_z1, xb_b2, if_true, if_false, ite_true, ite_false, iZ_lit, iZ_m1, iZ_m99, iZ_m8, iZ_add, iZ_sub, iZ_mul, iZ_neg, nz0, nzi, iZ_lt, iZ_le, iZ_inj, b2_z, b2_o, ite_bPz, ite_bPo, xb_bP, iZ_xin, if_pos, ite_self, ↓reduceIte, Int.reduceAdd, Int.reduceSub, Int.reduceMul, Int.reduceNeg, Int.reduceLT, Int.reduceLE, if_neg, nS, iZ_clampN, iZ_bit, iZ_one, iZ_and, iZ_or, iZ_ndn, eq1, f1, hq2, hic, m_isBeside hb hc hv, e1]
theorem mn_176 {A : dA} {M : xM} {rest half w q : Nat} {W : Nat → Prop} (h : mA M A) (hL : mLs M A) (hb : rw0 M (178, 0) 6 (bA A rest)) (hW : mkW M W) (hh : half < 512) (hw : w < 6) (hq : q < aP A) : ∃ M', xfix gX12_minutesOf (176, [some (.inr (.inr (12, 0))), none, some (.inl (iZ (half))), some (.inl (iZ (w))), some (.inl (iZ (((w / 2 : Nat))))), some (.inl (iZ (q))), none, none, none, none, none, none], [], M) = xfix gX12_minutesOf (176, [some (.inr (.inr (12, 0))), none, some (.inl (iZ (half))), some (.inl (iZ (w))), some (.inl (iZ (((w / 2 : Nat))))), some (.inl (iZ (((q : Int) + 1)))), none, none, none, none, none, none], [], M') ∧ xSame (fun r => r = (179, 0)) M M' ∧ mkW M' (fun d => W d ∨ (half.testBit q = true ∧ ∃ c, c < 512 ∧ aC A c = q ∧ gdc A rest w c d)) := by
  have hP := h.ok.P
  have hbl := bgn_le A (q + 1)
  have hb1 := bgn_S A q
  have hb2 := mnyA_b A q (i := 512) (by omega)
  have f0 := hL.1 q (by omega)
  have f1 := hL.1 (q + 1) (by omega)
  have eq1 : Int32.toNatClampNeg (iZ ((q : Int) + 1)) = q + 1 := by rw [iZ_clamp (by omega)]; omega
  have top : xfix gX12_minutesOf (176, [some (.inr (.inr (12, 0))), none, some (.inl (iZ (half))), some (.inl (iZ (w))), some (.inl (iZ (((w / 2 : Nat))))), some (.inl (iZ (q))), none, none, none, none, none, none], [], M) = xfix gX12_minutesOf (194, [some (.inr (.inr (12, 0))), none, some (.inl (iZ (half))), some (.inl (iZ (w))), some (.inl (iZ (((w / 2 : Nat))))), some (.inl (iZ (q))), some (.inl (iZ ((bgn A q)))), none, none, none, none, none], [], M) := by
    rw [xfix_unf, sX12_minutesOf_176]
    simp (disch := omega) only [xk_none, xk_inl, xk_inr, xk_ite, xri_v, xrl_v, xrv_v, xb_z0, xb_z1, xb_b2, if_true, if_false, ite_true, ite_false, iZ_lit, iZ_m1, iZ_m99, iZ_m8, iZ_add, iZ_sub, iZ_mul, iZ_neg, nz0, nzi, iZ_lt, iZ_le, iZ_inj, b2_z, b2_o, ite_bPz, ite_bPo, xb_bP, iZ_xin, if_pos, ite_self, ↓reduceIte, Int.reduceAdd, Int.reduceSub, Int.reduceMul, Int.reduceNeg, Int.reduceLT, Int.reduceLE, if_neg, nS, iZ_clampN, iZ_bit, iZ_one, iZ_and, iZ_or, iZ_ndn, h.P.1, f0]
  by_cases e : half.testBit q = true
  · obtain ⟨M2, g1, g2, g3⟩ := xfor_M (sg := gX12_minutesOf) (st := fun i M => (194, [some (.inr (.inr (12, 0))), none, some (.inl (iZ (half))), some (.inl (iZ (w))), some (.inl (iZ (((w / 2 : Nat))))), some (.inl (iZ (q))), some (.inl (iZ (i))), none, none, none, none, none], [], M)) (I := fun i N => bgn A q ≤ i ∧ xSame (fun r => r = (179, 0)) M N ∧ mkW N (fun d => W d ∨ ∃ j, bgn A q ≤ j ∧ j < i ∧ ∃ c, c < 512 ∧ xI M (175, 0) j = iZ (c : Nat) ∧ gdc A rest w c d)) (n := bgn A (q + 1)) (fun i N hi hN => by
      obtain ⟨n1, n2, n3⟩ := hN
      obtain ⟨c, c1, c2, c3⟩ := hL.2.1 q hq i n1 hi
      have hLN : mLs N A := hL.tr (n2.wk fun r z => .inr z)
      obtain ⟨N', k1, k2, k3⟩ := mn_cell (h.fr n2 (by decide)) hLN (hb.same n2 (by decide)) n3 hh hw hq e hi c1 (by rw [(n2 (175, 0) (by decide)).1]; exact c2)
      refine ⟨N', by rw [nS]; exact k1, by omega, n2.tr k2, k3.cg fun d hd => ?_⟩
      constructor
      · rintro ((a | ⟨j, j1, j2, j3⟩) | a)
        · exact .inl a
        · exact .inr ⟨j, j1, by omega, j3⟩
        · exact .inr ⟨i, n1, by omega, c, c1, c2, a⟩
      · rintro (a | ⟨j, j1, j2, c', j3, j4, j5⟩)
        · exact .inl (.inl a)
        · by_cases ej : j = i
          · subst ej
            rw [c2] at j4
            have : c = c' := by
              have := (iZ_inj (a := (c : Int)) (b := (c' : Int)) (by omega) (by omega)).mp j4
              omega
            subst this
            exact .inr j5
          · exact .inl (.inr ⟨j, j1, by omega, c', j3, j4, j5⟩)) (a := bgn A q) (M := M) (by omega) ⟨Nat.le_refl _, xSame.rf, hW.cg fun d hd => ⟨.inl, fun z => z.elim id fun ⟨j, j1, j2, _⟩ => by omega⟩⟩
    refine ⟨M2, top.trans (g1.trans ?_), g3.1, g3.2.cg fun d hd => ?_⟩
    · have f1' : xI M2 (176, 0) (q + 1) = iZ (bgn A (q + 1)) := by rw [(g3.1 (176, 0) (by decide)).1]; exact f1
      rw [xfix_unf, sX12_minutesOf_194]
      simp (disch := omega) only [xk_none, xk_inl, xk_inr, xk_ite, xri_v, xrl_v, xrv_v, xb_z0, xb_z1, xb_b2, if_true, if_false, ite_true, ite_false, iZ_lit, iZ_m1, iZ_m99, iZ_m8, iZ_add, iZ_sub, iZ_mul, iZ_neg, nz0, nzi, iZ_lt, iZ_le, iZ_inj, b2_z, b2_o, ite_bPz, ite_bPo, xb_bP, iZ_xin, if_pos, ite_self, ↓reduceIte, Int.reduceAdd, Int.reduceSub, Int.reduceMul, Int.reduceNeg, Int.reduceLT, Int.reduceLE, if_neg, nS, iZ_clampN, iZ_bit, iZ_one, iZ_and, iZ_or, iZ_ndn, eq1, f1']
    · constructor
      · rintro (a | ⟨j, j1, j2, c, j3, j4, j5⟩)
        · exact .inl a
        · obtain ⟨c', c1, c2, c3⟩ := hL.2.1 q hq j j1 j2
          rw [c2] at j4
          have : c' = c := by
            have := (iZ_inj (a := (c' : Int)) (b := (c : Int)) (by omega) (by omega)).mp j4
            omega
          subst this
          exact .inr ⟨e, c', j3, c3, j5⟩
      · rintro (a | ⟨_, c, c1, c2, c3⟩)
        · exact .inl a
        · obtain ⟨i, i1, i2, i3⟩ := hL.2.2.1 q hq c c1 c2
          exact .inr ⟨i, i1, i2, c, c1, i3, c3⟩
  · refine ⟨M, top.trans ?_, xSame.rf, hW.cg fun d hd => ⟨.inl, fun z => z.elim id fun z => absurd z.1 e⟩⟩
    rw [xfix_unf, sX12_minutesOf_194]
    simp (disch := omega) only [xk_none, xk_inl, xk_inr, xk_ite, xri_v, xrl_v, xrv_v, xb_z0, xb_z1, xb_b2, if_true, if_false, ite_true, ite_false, iZ_lit, iZ_m1, iZ_m99, iZ_m8, iZ_add, iZ_sub, iZ_mul, iZ_neg, nz0, nzi, iZ_lt, iZ_le, iZ_inj, b2_z, b2_o, ite_bPz, ite_bPo, xb_bP, iZ_xin, if_pos, ite_self, ↓reduceIte, Int.reduceAdd, Int.reduceSub, Int.reduceMul, Int.reduceNeg, Int.reduceLT, Int.reduceLE, if_neg, nS, iZ_clampN, iZ_bit, iZ_one, iZ_and, iZ_or, iZ_ndn, eq1, f1, if_neg e]
theorem wth_8 {A : dA} {rest half w : Nat} (hw : w < 6) : ¬ wth A rest half w 8 := by
  rintro ⟨c, h1, h2, h3⟩
  have h4 := h3 (w / 2) (by omega)
  rw [stp_ax hw (by omega), if_pos rfl] at h4
  have h5 := alg_lt h1 (w / 2)
  have h6 : bA A rest (2 * (w / 2) + 1) < 8 := by
    unfold bA hiA
    rw [if_neg (by omega)]
    exact (hst_rng _ 8).2
  have h7 : 0 ≤ bA A rest (2 * (w / 2)) := by
    unfold bA
    rw [if_pos (by omega)]
    omega
  split at h4 <;> omega
theorem mnt_le {A : dA} {heap half w : Nat} (hw : w < 6) : mnt A heap half w ≤ 8 := by
  refine Classical.byContradiction fun h => ?_
  exact lst_no (fun d => ¬ wth A (ndn heap half) half w d) 17 8 (by unfold mnt at h; omega) (wth_8 hw)
theorem m_minutesOf {A : dA} {M : xM} {heap half w : Nat} (h : mA M A) (hL : mLs M A) (hh : heap < 2 ^ aP A) (h2 : half < 2 ^ aP A) (hw : w < 6) : ∃ M', fX12_minutesOf [.inr (.inr (12, 0)), .inl (iZ (heap)), .inl (iZ (half)), .inl (iZ (w))] M = some (some (.inl (iZ ((mnt A heap half w : Nat)))), M') ∧ xSame tR M M' := by
  have hp := pow9 h.ok.P
  have hP9 := h.ok.P
  obtain ⟨M1, a1, a2, a3, a4⟩ := mn_bounds h hL hh (by omega : half < 512) hw
  have hA1 := h.fr a2 (by decide)
  have hL1 := hL.tr a2
  obtain ⟨M2, b1, b2, b3⟩ := xfor_M (sg := gX12_minutesOf) (st := fun q M => (176, [some (.inr (.inr (12, 0))), none, some (.inl (iZ (half))), some (.inl (iZ (w))), some (.inl (iZ (((w / 2 : Nat))))), some (.inl (iZ (q))), none, none, none, none, none, none], [], M)) (I := fun q N => xSame (fun r => r = (179, 0)) M1 N ∧ mkW N (fun d => ∃ c, c < 512 ∧ inH A (half % 2 ^ q) c ∧ gdc A (ndn heap half) w c d)) (n := aP A) (fun q N hq hN => by
    obtain ⟨n1, n2⟩ := hN
    obtain ⟨N', g1, g2, g3⟩ := mn_176 (half := half) (h := hA1.fr n1 (by decide)) (hL := hL1.tr (n1.wk fun r z => .inr z)) (hb := a3.same n1 (by decide)) n2 (by omega) hw hq
    refine ⟨N', by rw [nS]; exact g1, n1.tr g2, g3.cg fun d hd => ?_⟩
    by_cases e : half.testBit q = true
    · constructor
      · rintro (⟨c, c1, c2, c3⟩ | ⟨_, c, c1, c2, c3⟩)
        · exact ⟨c, c1, (inH_md e).mpr (.inl c2), c3⟩
        · exact ⟨c, c1, (inH_md e).mpr (.inr ⟨q, c2, Nat.testBit_two_pow_self⟩), c3⟩
      · rintro ⟨c, c1, c2, c3⟩
        rcases (inH_md e).mp c2 with c2 | ⟨p, p1, p2⟩
        · exact .inl ⟨c, c1, c2, c3⟩
        · rw [Nat.testBit_two_pow, decide_eq_true_iff] at p2
          subst p2
          exact .inr ⟨e, c, c1, p1, c3⟩
    · rw [md_no e]
      exact ⟨fun z => z.elim id fun z => absurd z.1 e, .inl⟩) (a := 0) (M := M1) (by omega) ⟨xSame.rf, fun d hd => by
        rw [a4 d hd, bP_f]
        rintro ⟨c, _, ⟨p, _, p2⟩, _⟩
        rw [show half % 2 ^ 0 = 0 by omega, Nat.zero_testBit] at p2
        cases p2⟩
  rw [md_all h2] at b3
  have hA2 := hA1.fr b2 (by decide)
  refine ⟨M2, a1.trans (b1.trans ?_), a2.tr (b2.wk fun r z => .inr z)⟩
  have e380 : xfix gX12_minutesOf (176, [some (.inr (.inr (12, 0))), none, some (.inl (iZ (half))), some (.inl (iZ (w))), some (.inl (iZ (((w / 2 : Nat))))), some (.inl (iZ ((aP A)))), none, none, none, none, none, none], [], M2) = xfix gX12_minutesOf (380, [some (.inr (.inr (12, 0))), none, none, none, none, some (.inl (iZ ((0 : Nat)))), none, none, none, none, none, none], [], M2) := by
    rw [xfix_unf, sX12_minutesOf_176]
    simp (disch := omega) only [xk_none, xk_inl, xk_inr, xk_ite, xri_v, xrl_v, xrv_v, xb_z0, xb_z1, xb_b2, if_true, if_false, ite_true, ite_false, iZ_lit, iZ_m1, iZ_m99, iZ_m8, iZ_add, iZ_sub, iZ_mul, iZ_neg, nz0, nzi, iZ_lt, iZ_le, iZ_inj, b2_z, b2_o, ite_bPz, ite_bPo, xb_bP, iZ_xin, if_pos, ite_self, ↓reduceIte, Int.reduceAdd, Int.reduceSub, Int.reduceMul, Int.reduceNeg, Int.reduceLT, Int.reduceLE, if_neg, hA2.P.1]
    rfl
  rw [e380]
  have hm := mnt_le (A := A) (heap := heap) (half := half) hw
  have hl := xfor_F (sg := gX12_minutesOf) (fun d => (380, [some (.inr (.inr (12, 0))), none, none, none, none, some (.inl (iZ (d))), none, none, none, none, none, none], [], M2)) (a := 0) (n := mnt A heap half w) (by omega) (fun d _ hd => by
    have hW : wth A (ndn heap half) half w d := Classical.byContradiction fun z => lst_no (fun d => ¬ wth A (ndn heap half) half w d) 17 d hd z
    have f : xI M2 (179, 0) d = bP (wth A (ndn heap half) half w d) := b3 d (by omega)
    rw [bP_t hW] at f
    rw [xfix_unf, sX12_minutesOf_380]
    simp (disch := omega) only [xk_none, xk_inl, xk_inr, xk_ite, xri_v, xrl_v, xrv_v, xb_z0, xb_z1, xb_b2, if_true, if_false, ite_true, ite_false, iZ_lit, iZ_m1, iZ_m99, iZ_m8, iZ_add, iZ_sub, iZ_mul, iZ_neg, nz0, nzi, iZ_lt, iZ_le, iZ_inj, b2_z, b2_o, ite_bPz, ite_bPo, xb_bP, iZ_xin, if_pos, ite_self, ↓reduceIte, Int.reduceAdd, Int.reduceSub, Int.reduceMul, Int.reduceNeg, Int.reduceLT, Int.reduceLE, if_neg, nS, iZ_clampN, iZ_bit, iZ_one, iZ_and, iZ_or, iZ_ndn, f])
  refine hl.trans ?_
  have hW : ¬ wth A (ndn heap half) half w (mnt A heap half w) := lst_is (fun d => ¬ wth A (ndn heap half) half w d) 17 (by unfold mnt at hm; omega)
  have f : xI M2 (179, 0) (mnt A heap half w) = bP (wth A (ndn heap half) half w (mnt A heap half w)) := b3 (mnt A heap half w) (by omega)
  rw [bP_f hW] at f
  rw [xfix_unf, sX12_minutesOf_380]
  simp (disch := omega) only [xk_none, xk_inl, xk_inr, xk_ite, xri_v, xrl_v, xrv_v, xb_z0, xb_z1, xb_b2, if_true, if_false, ite_true, ite_false, iZ_lit, iZ_m1, iZ_m99, iZ_m8, iZ_add, iZ_sub, iZ_mul, iZ_neg, nz0, nzi, iZ_lt, iZ_le, iZ_inj, b2_z, b2_o, ite_bPz, ite_bPo, xb_bP, iZ_xin, if_pos, ite_self, ↓reduceIte, Int.reduceAdd, Int.reduceSub, Int.reduceMul, Int.reduceNeg, Int.reduceLT, Int.reduceLE, if_neg, nS, iZ_clampN, iZ_bit, iZ_one, iZ_and, iZ_or, iZ_ndn, f]
