/-! the reference: counting orders -/
abbrev on1 (h : Nat) : Prop := bc h = 1
abbrev ok1 (_ _ : Nat) : Prop := True
def gdw (A : dA) (B : Nat → Nat) (heap half w : Nat) : Prop := lv (aP A) B heap half w ∧ loose A heap half
noncomputable def cstA (A : dA) (heap w : Nat) : Int := aPr A w + aPr A 6 * hnd A heap
theorem cstA_b {A : dA} (h : aOk A) (heap : Nat) {w : Nat} (hw : w < 6) : 0 ≤ cstA A heap w ∧ cstA A heap w ≤ 1089 := by
  have h1 := h.2.2.2.2 w (by omega)
  have h2 := h.2.2.2.2 6 (by omega)
  have h3 := hnd_le A heap
  have h4 := mul_b (a := aPr A 6) (b := hnd A heap) (m := 99) (n := 10) (by omega) (by omega)
  unfold cstA
  omega
/-- the hands of all heaps are known -/
def mH (M : xM) (A : dA) : Prop := ∀ heap, 1 ≤ heap → heap < 2 ^ aP A → xI M (139, 0) heap = iZ (hnd A heap)
abbrev cR (r : xR) : Prop := r = (134, 0) ∨ r = (135, 0) ∨ r = (136, 0) ∨ r = (137, 0) ∨ r = (138, 0)
/-- what is known of a heap that is being counted -/
def cI (M : xM) (heap : Nat) (o r : Int) (l : Int × Nat × Nat) (M' : xM) : Prop := xSm (fun r j => j = heap ∧ cR r) M M' ∧ xL M' (134, 0) heap = lZ o ∧ xI M' (138, 0) heap = iZ r ∧ xI M' (135, 0) heap = iZ l.1 ∧ (¬ on1 heap → l.1 ≠ -1 → xI M' (136, 0) heap = iZ l.2.1 ∧ xI M' (137, 0) heap = iZ l.2.2)
theorem cI.S {M M' : xM} {heap : Nat} {o r : Int} {l : Int × Nat × Nat} (h : cI M heap o r l M') : xSame cR M M' := h.1.S fun _ _ z => z.2
theorem mA.fr {M M' : xM} {A : dA} {P : xR → Prop} (h : mA M A) (hs : xSame P M M') (hp : ∀ r, r ∈ ([(12, 0), (100, 0), (104, 0), (105, 0), (106, 0), (107, 0), (108, 0), (109, 0), (159, 0)] : List xR) → ¬ P r) : mA M' A := h.same hs (hp _ (by decide)) (hp _ (by decide)) (hp _ (by decide)) (hp _ (by decide)) (hp _ (by decide)) (hp _ (by decide)) (hp _ (by decide)) (hp _ (by decide)) (hp _ (by decide))
theorem mA.cr {M M' : xM} {A : dA} (h : mA M A) (hs : xSame cR M M') : mA M' A := h.fr hs (by decide)
theorem mB.fr {M M' : xM} {B : Nat → Nat} {P : xR → Prop} (h : mB M B) (hs : xSame P M M') (hp : ¬ P (132, 0)) : mB M' B := ⟨fun k hk => by rw [(hs (132, 0) hp).1]; exact h.1 k hk, h.2⟩
theorem mB.cr {M M' : xM} {B : Nat → Nat} (h : mB M B) (hs : xSame cR M M') : mB M' B := h.fr hs (by decide)
theorem mA.pr {M : xM} {A : dA} (h : mA M A) {w : Nat} (hw : w < 7) : xI M (108, 0) w = iZ (aPr A w) := h.2.2.2.2.2.1 w hw
theorem leaW_no {gw : Nat → Nat → Nat → Prop} {cst : Nat → Nat → Int} {heap half : Nat} {b : Int} {s : Int × Nat × Nat} (h : ∀ w, ¬ gw heap half w) : ∀ w, leaW gw cst heap half b s w = s
  | 0 => rfl
  | w + 1 => by
    unfold leaW
    rw [if_neg (fun z => h w z.1)]
    exact leaW_no h w
theorem cnt_ways {A : dA} {B : Nat → Nat} {M M' : xM} {heap half : Nat} {o r a b : Int} {l : Int × Nat × Nat} (hA : mA M A) (hB : mB M B) (hH : mH M A) (h1 : 1 ≤ heap) (hh : heap < 2 ^ aP A) (hk : half &&& heap = half) (hk1 : 1 ≤ half) (hk2 : half < heap) (ho : ¬ on1 heap) (hl : loose A heap half) (ha : 0 ≤ a ∧ a ≤ 600000) (hb : 0 ≤ b ∧ b ≤ 600000) (hlb : -1 ≤ l.1 ∧ l.1 ≤ 1300000) (e1 : xI M (135, 0) half = iZ a) (e2 : xI M (135, 0) (ndn heap half) = iZ b) (hI : cI M heap o r l M') :
    ∃ M'', xfix gX12_counts (254, [some (.inr (.inr (12, 0))), some (.inl (iZ (heap))), none, some (.inl (iZ (half))), some (.inl (iZ ((ndn heap half)))), some (.inl (iZ ((0 : Nat)))), none], [], M') = xfix gX12_counts (61, [some (.inr (.inr (12, 0))), some (.inl (iZ (heap))), none, some (.inl (iZ (((half : Int) + 1)))), none, none, none], [], M'') ∧ cI M heap o r (leaW (gdw A B) (cstA A) heap half (a + b) l 6) M'' := by
  have hP := pow9 hA.ok.P
  have hrest := ndn_add heap half hk
  obtain ⟨M2, g1, g2⟩ := xfor_M (sg := gX12_counts) (st := fun w M => (254, [some (.inr (.inr (12, 0))), some (.inl (iZ (heap))), none, some (.inl (iZ (half))), some (.inl (iZ ((ndn heap half)))), some (.inl (iZ (w))), none], [], M)) (I := fun w M' => cI M heap o r (leaW (gdw A B) (cstA A) heap half (a + b) l w) M') (n := 6) (fun w N hw hN => by
    have hbd := leaW_b (gw := gdw A B) (cst := cstA A) (heap := heap) (half := half) (b := a + b) (s := l) (C := 1300000) (by omega) (fun w hw => by have := cstA_b hA.ok heap hw; omega) hlb w (by omega)
    have hc := cstA_b hA.ok heap hw
    have hNA := hA.cr hN.S
    have hNB := hB.cr hN.S
    have f1 : xI N (135, 0) half = iZ a := by rw [(hN.1 (135, 0) half (fun z => by omega)).1, e1]
    have f2 : xI N (135, 0) (ndn heap half) = iZ b := by rw [(hN.1 (135, 0) (ndn heap half) (fun z => by omega)).1, e2]
    have f3 : xI N (139, 0) heap = iZ (hnd A heap) := by rw [(hN.S (139, 0) (by decide)).1, hH heap h1 hh]
    have f4 := hN.2.2.2.1
    have ec : (aPr A w : Int) + aPr A 6 * hnd A heap + a + b = cstA A heap w + (a + b) := by unfold cstA; omega
    rw [show leaW (gdw A B) (cstA A) heap half (a + b) l (w + 1) = @ite _ (gdw A B heap half w ∧ ((leaW (gdw A B) (cstA A) heap half (a + b) l w).1 = -1 ∨ cstA A heap w + (a + b) < (leaW (gdw A B) (cstA A) heap half (a + b) l w).1)) (Classical.propDecidable _) (cstA A heap w + (a + b), half, w) (leaW (gdw A B) (cstA A) heap half (a + b) l w) from rfl]
    generalize leaW (gdw A B) (cstA A) heap half (a + b) l w = s at *
    have e335 : xfix gX12_counts (335, [some (.inr (.inr (12, 0))), some (.inl (iZ (heap))), none, some (.inl (iZ (half))), some (.inl (iZ ((ndn heap half)))), some (.inl (iZ (w))), some (.inl (iZ ((cstA A heap w + (a + b)))))], [], N) = xfix gX12_counts (254, [some (.inr (.inr (12, 0))), some (.inl (iZ (heap))), none, some (.inl (iZ (half))), some (.inl (iZ ((ndn heap half)))), some (.inl (iZ (((w : Int) + 1)))), none], [], xpI (xpI (xpI N (135, 0) heap (iZ (cstA A heap w + (a + b)))) (136, 0) heap (iZ half)) (137, 0) heap (iZ w)) := by
      rw [xfix_unf, sX12_counts_335]
      simp (disch := omega) only [xk_none, xk_inl, xk_inr, xk_ite, xri_v, xrl_v, xrv_v, xb_z0, xb_z1, xb_b2, if_true, if_false, ite_true, ite_false, iZ_lit, iZ_m1, iZ_m99, iZ_m8, iZ_add, iZ_sub, iZ_mul, iZ_neg, nz0, nzi, iZ_lt, iZ_le, iZ_inj, b2_z, b2_o, ite_bPz, ite_bPo, xb_bP, iZ_xin, if_pos, ite_self, ↓reduceIte, Int.reduceAdd, Int.reduceSub, Int.reduceMul, Int.reduceNeg, Int.reduceLT, Int.reduceLE, if_neg, nS, iZ_clampN, iZ_bit, iZ_one, iZ_and, iZ_or, iZ_ndn]
    have hnew : cI M heap o r (cstA A heap w + (a + b), half, w) (xpI (xpI (xpI N (135, 0) heap (iZ (cstA A heap w + (a + b)))) (136, 0) heap (iZ half)) (137, 0) heap (iZ w)) := by
      refine ⟨((hN.1.pI ⟨rfl, .inr (.inl rfl)⟩).pI ⟨rfl, .inr (.inr (.inl rfl))⟩).pI ⟨rfl, .inr (.inr (.inr (.inl rfl)))⟩, hN.2.1, ?_, ?_, fun _ _ => ⟨?_, ?_⟩⟩
      · rw [xI_pI_ne (by decide), xI_pI_ne (by decide), xI_pI_ne (by decide)]; exact hN.2.2.1
      · rw [xI_pI_ne (by decide), xI_pI_ne (by decide), xI_pI, if_pos ⟨rfl, rfl⟩]
      · rw [xI_pI_ne (by decide), xI_pI, if_pos ⟨rfl, rfl⟩]
      · rw [xI_pI, if_pos ⟨rfl, rfl⟩]
    by_cases c1 : lv (aP A) B heap half w
    · by_cases c2 : s.1 = -1 ∨ cstA A heap w + (a + b) < s.1
      · rw [if_pos ⟨⟨c1, hl⟩, c2⟩]
        refine ⟨_, ?_, hnew⟩
        rw [nS, ← e335]
        rw [xfix_unf, sX12_counts_254]
        simp (disch := omega) only [xk_none, xk_inl, xk_inr, xk_ite, xri_v, xrl_v, xrv_v, xb_z0, xb_z1, xb_b2, if_true, if_false, ite_true, ite_false, iZ_lit, iZ_m1, iZ_m99, iZ_m8, iZ_add, iZ_sub, iZ_mul, iZ_neg, nz0, nzi, iZ_lt, iZ_le, iZ_inj, b2_z, b2_o, ite_bPz, ite_bPo, xb_bP, iZ_xin, if_pos, ite_self, ↓reduceIte, Int.reduceAdd, Int.reduceSub, Int.reduceMul, Int.reduceNeg, Int.reduceLT, Int.reduceLE, if_neg, nS, iZ_clampN, iZ_bit, iZ_one, iZ_and, iZ_or, iZ_ndn, m_leaves hNA.P hNB (by omega : heap < 512) (by omega : half < 512) hw, hNA.pr (w := w) (by omega), hNA.pr (w := 6) (by omega), f1, f2, f3, f4, c1, cl_6, ec]
      · rw [if_neg (fun z => c2 z.2)]
        refine ⟨N, ?_, hN⟩
        rw [xfix_unf, sX12_counts_254]
        simp (disch := omega) only [xk_none, xk_inl, xk_inr, xk_ite, xri_v, xrl_v, xrv_v, xb_z0, xb_z1, xb_b2, if_true, if_false, ite_true, ite_false, iZ_lit, iZ_m1, iZ_m99, iZ_m8, iZ_add, iZ_sub, iZ_mul, iZ_neg, nz0, nzi, iZ_lt, iZ_le, iZ_inj, b2_z, b2_o, ite_bPz, ite_bPo, xb_bP, iZ_xin, if_pos, ite_self, ↓reduceIte, Int.reduceAdd, Int.reduceSub, Int.reduceMul, Int.reduceNeg, Int.reduceLT, Int.reduceLE, if_neg, nS, iZ_clampN, iZ_bit, iZ_one, iZ_and, iZ_or, iZ_ndn, m_leaves hNA.P hNB (by omega : heap < 512) (by omega : half < 512) hw, hNA.pr (w := w) (by omega), hNA.pr (w := 6) (by omega), f1, f2, f3, f4, c1, cl_6, ec]
    · rw [if_neg (fun z => c1 z.1.1)]
      refine ⟨N, ?_, hN⟩
      rw [xfix_unf, sX12_counts_254]
      simp (disch := omega) only [xk_none, xk_inl, xk_inr, xk_ite, xri_v, xrl_v, xrv_v, xb_z0, xb_z1, xb_b2, if_true, if_false, ite_true, ite_false, iZ_lit, iZ_m1, iZ_m99, iZ_m8, iZ_add, iZ_sub, iZ_mul, iZ_neg, nz0, nzi, iZ_lt, iZ_le, iZ_inj, b2_z, b2_o, ite_bPz, ite_bPo, xb_bP, iZ_xin, if_pos, ite_self, ↓reduceIte, Int.reduceAdd, Int.reduceSub, Int.reduceMul, Int.reduceNeg, Int.reduceLT, Int.reduceLE, if_neg, nS, iZ_clampN, iZ_bit, iZ_one, iZ_and, iZ_or, iZ_ndn, m_leaves hNA.P hNB (by omega : heap < 512) (by omega : half < 512) hw, c1]) (a := 0) (M := M') (by omega) hI
  refine ⟨M2, g1.trans ?_, g2⟩
  rw [xfix_unf, sX12_counts_254]
  simp (disch := omega) only [xk_none, xk_inl, xk_inr, xk_ite, xri_v, xrl_v, xrv_v, xb_z0, xb_z1, xb_b2, if_true, if_false, ite_true, ite_false, iZ_lit, iZ_m1, iZ_m99, iZ_m8, iZ_add, iZ_sub, iZ_mul, iZ_neg, nz0, nzi, iZ_lt, iZ_le, iZ_inj, b2_z, b2_o, ite_bPz, ite_bPo, xb_bP, iZ_xin, if_pos, ite_self, ↓reduceIte, Int.reduceAdd, Int.reduceSub, Int.reduceMul, Int.reduceNeg, Int.reduceLT, Int.reduceLE, if_neg]

/-- rounds, with one more cut -/
noncomputable def rnd3 (t r : Int) : Int := if t ≠ -1 ∧ (r = -1 ∨ t < r) then t else r
theorem cnt_181 {M N : xM} {heap half rest : Nat} {o r t0 : Int} {l : Int × Nat × Nat} (hh : heap < 512) (hr : -1 ≤ r ∧ r ≤ 600) (ht : -1 ≤ t0 ∧ t0 ≤ 600) (hI : cI M heap o r l N) :
    ∃ N', xfix gX12_counts (181, [some (.inr (.inr (12, 0))), some (.inl (iZ (heap))), none, some (.inl (iZ (half))), some (.inl (iZ (rest))), none, none], [.inl (iZ (t0))], N) = xfix gX12_counts (218, [some (.inr (.inr (12, 0))), some (.inl (iZ (heap))), none, some (.inl (iZ (half))), some (.inl (iZ (rest))), none, none], [], N') ∧ cI M heap o (rnd3 t0 r) l N' := by
  have f := hI.2.2.1
  have hnew : cI M heap o t0 l (xpI N (138, 0) heap (iZ t0)) := by
    refine ⟨hI.1.pI ⟨rfl, by decide⟩, hI.2.1, by rw [xI_pI, if_pos ⟨rfl, rfl⟩], by rw [xI_pI_ne (by decide)]; exact hI.2.2.2.1, fun a b => ?_⟩
    rw [xI_pI_ne (by decide), xI_pI_ne (by decide)]
    exact hI.2.2.2.2 a b
  unfold rnd3
  by_cases c : t0 ≠ -1 ∧ (r = -1 ∨ t0 < r)
  · rw [if_pos c]
    refine ⟨_, ?_, hnew⟩
    rw [xfix_unf, sX12_counts_181]
    simp (disch := omega) only [xk_none, xk_inl, xk_inr, xk_ite, xri_v, xrl_v, xrv_v, xb_z0, xb_z1, xb_b2, if_true, if_false, ite_true, ite_false, iZ_lit, iZ_m1, iZ_m99, iZ_m8, iZ_add, iZ_sub, iZ_mul, iZ_neg, nz0, nzi, iZ_lt, iZ_le, iZ_inj, b2_z, b2_o, ite_bPz, ite_bPo, xb_bP, iZ_xin, if_pos, ite_self, ↓reduceIte, Int.reduceAdd, Int.reduceSub, Int.reduceMul, Int.reduceNeg, Int.reduceLT, Int.reduceLE, if_neg, nS, iZ_clampN, iZ_bit, iZ_one, iZ_and, iZ_or, iZ_ndn, f]
  · rw [if_neg c]
    refine ⟨N, ?_, hI⟩
    rw [xfix_unf, sX12_counts_181]
    simp (disch := omega) only [xk_none, xk_inl, xk_inr, xk_ite, xri_v, xrl_v, xrv_v, xb_z0, xb_z1, xb_b2, if_true, if_false, ite_true, ite_false, iZ_lit, iZ_m1, iZ_m99, iZ_m8, iZ_add, iZ_sub, iZ_mul, iZ_neg, nz0, nzi, iZ_lt, iZ_le, iZ_inj, b2_z, b2_o, ite_bPz, ite_bPo, xb_bP, iZ_xin, if_pos, ite_self, ↓reduceIte, Int.reduceAdd, Int.reduceSub, Int.reduceMul, Int.reduceNeg, Int.reduceLT, Int.reduceLE, if_neg, nS, iZ_clampN, iZ_bit, iZ_one, iZ_and, iZ_or, iZ_ndn, f]
theorem cnt_part {A : dA} {B : Nat → Nat} {M N : xM} {heap k : Nat} {o r : Int} {l : Int × Nat × Nat} {TO TR : Nat → Int} (hA : mA M A) (hB : mB M B) (hh : heap < 512) (hk : k &&& heap = k) (hk1 : 1 ≤ k) (hk2 : k < heap) (hO : ∀ k, 1 ≤ k → k < heap → xL M (134, 0) k = lZ (TO k)) (hR : ∀ k, 1 ≤ k → k < heap → xI M (138, 0) k = iZ (TR k)) (bR : ∀ k, 1 ≤ k → k < heap → -1 ≤ TR k ∧ TR k ≤ k) (hr : -1 ≤ r ∧ r ≤ 600) (hI : cI M heap o r l N) :
    ∃ N', xfix gX12_counts (61, [some (.inr (.inr (12, 0))), some (.inl (iZ (heap))), none, some (.inl (iZ (k))), none, none, none], [], N) = xfix gX12_counts (218, [some (.inr (.inr (12, 0))), some (.inl (iZ (heap))), none, some (.inl (iZ (k))), some (.inl (iZ ((ndn heap k)))), none, none], [], N') ∧ cI M heap (@ite _ (k < ndn heap k ∧ prt A B heap k) (Classical.propDecidable _) (o + TO k * TO (ndn heap k)) o) (@ite _ (k < ndn heap k ∧ prt A B heap k) (Classical.propDecidable _) (rnd3 (rnd2 (TR k) (TR (ndn heap k))) r) r) l N' := by
  have hrest := ndn_add heap k hk
  have hz : ndn k heap = 0 := ndn_and.mpr hk
  have hNA := hA.cr hI.S
  have hNB := hB.cr hI.S
  by_cases c1 : k < ndn heap k
  · by_cases c2 : prt A B heap k
    · rw [if_pos ⟨c1, c2⟩, if_pos ⟨c1, c2⟩]
      have f1 : xL N (134, 0) k = lZ (TO k) := by rw [(hI.1 (134, 0) k (fun z => by omega)).2]; exact hO k hk1 hk2
      have f2 : xL N (134, 0) (ndn heap k) = lZ (TO (ndn heap k)) := by rw [(hI.1 (134, 0) (ndn heap k) (fun z => by omega)).2]; exact hO _ (by omega) (by omega)
      have f3 : xI N (138, 0) k = iZ (TR k) := by rw [(hI.1 (138, 0) k (fun z => by omega)).1]; exact hR k hk1 hk2
      have f4 : xI N (138, 0) (ndn heap k) = iZ (TR (ndn heap k)) := by rw [(hI.1 (138, 0) (ndn heap k) (fun z => by omega)).1]; exact hR _ (by omega) (by omega)
      have b3 := bR k hk1 hk2
      have b4 := bR (ndn heap k) (by omega) (by omega)
      have hnew : cI M heap (o + TO k * TO (ndn heap k)) r l (xpL N (134, 0) heap (lZ (o + TO k * TO (ndn heap k)))) := ⟨hI.1.pL ⟨rfl, by decide⟩, by rw [xL_pL, if_pos ⟨rfl, rfl⟩], hI.2.2.1, hI.2.2.2.1, hI.2.2.2.2⟩
      have hb := rnd2_b b3 b4 hk2 (by omega : ndn heap k < heap)
      obtain ⟨N', g1, g2⟩ := cnt_181 (half := k) (rest := ndn heap k) hh hr (t0 := rnd2 (TR k) (TR (ndn heap k))) (by omega) hnew
      refine ⟨N', ?_, g2⟩
      rw [← g1]
      rw [xfix_unf, sX12_counts_61]
      simp (disch := omega) only [xk_none, xk_inl, xk_inr, xk_ite, xri_v, xrl_v, xrv_v, xb_z0, xb_z1, xb_b2, if_true, if_false, ite_true, ite_false, iZ_lit, iZ_m1, iZ_m99, iZ_m8, iZ_add, iZ_sub, iZ_mul, iZ_neg, nz0, nzi, iZ_lt, iZ_le, iZ_inj, b2_z, b2_o, ite_bPz, ite_bPo, xb_bP, iZ_xin, if_pos, ite_self, ↓reduceIte, Int.reduceAdd, Int.reduceSub, Int.reduceMul, Int.reduceNeg, Int.reduceLT, Int.reduceLE, if_neg, nS, iZ_clampN, iZ_bit, iZ_one, iZ_and, iZ_or, iZ_ndn, hz, m_isParting hNA hNB hh (by omega : k < 512), c2, f1, f2, hI.2.1, lZ_mul, lZ_add, xI_pL, f3, f4]
      unfold rnd2
      by_cases d1 : TR k = -1
      · rw [if_pos d1, if_pos (.inl d1)]
      · by_cases d2 : TR (ndn heap k) = -1
        · rw [if_neg d1, if_pos d2, if_pos (.inr d2)]
        · rw [if_neg d1, if_neg d2, if_neg (show ¬ (TR k = -1 ∨ TR (ndn heap k) = -1) by omega)]
          by_cases d3 : TR k ≤ TR (ndn heap k)
          · rw [if_pos d3, if_neg (by omega)]
          · rw [if_neg d3, if_pos (by omega)]
    · rw [if_neg (fun z => c2 z.2), if_neg (fun z => c2 z.2)]
      refine ⟨N, ?_, hI⟩
      rw [xfix_unf, sX12_counts_61]
      simp (disch := omega) only [xk_none, xk_inl, xk_inr, xk_ite, xri_v, xrl_v, xrv_v, xb_z0, xb_z1, xb_b2, if_true, if_false, ite_true, ite_false, iZ_lit, iZ_m1, iZ_m99, iZ_m8, iZ_add, iZ_sub, iZ_mul, iZ_neg, nz0, nzi, iZ_lt, iZ_le, iZ_inj, b2_z, b2_o, ite_bPz, ite_bPo, xb_bP, iZ_xin, if_pos, ite_self, ↓reduceIte, Int.reduceAdd, Int.reduceSub, Int.reduceMul, Int.reduceNeg, Int.reduceLT, Int.reduceLE, if_neg, nS, iZ_clampN, iZ_bit, iZ_one, iZ_and, iZ_or, iZ_ndn, hz, m_isParting hNA hNB hh (by omega : k < 512), c2]
  · rw [if_neg (fun z => c1 z.1), if_neg (fun z => c1 z.1)]
    refine ⟨N, ?_, hI⟩
    rw [xfix_unf, sX12_counts_61]
    simp (disch := omega) only [xk_none, xk_inl, xk_inr, xk_ite, xri_v, xrl_v, xrv_v, xb_z0, xb_z1, xb_b2, if_true, if_false, ite_true, ite_false, iZ_lit, iZ_m1, iZ_m99, iZ_m8, iZ_add, iZ_sub, iZ_mul, iZ_neg, nz0, nzi, iZ_lt, iZ_le, iZ_inj, b2_z, b2_o, ite_bPz, ite_bPo, xb_bP, iZ_xin, if_pos, ite_self, ↓reduceIte, Int.reduceAdd, Int.reduceSub, Int.reduceMul, Int.reduceNeg, Int.reduceLT, Int.reduceLE, if_neg, nS, iZ_clampN, iZ_bit, iZ_one, iZ_and, iZ_or, iZ_ndn, hz]
theorem m_counts {A : dA} {B : Nat → Nat} {M : xM} {heap : Nat} {TO TR : Nat → Int} {TL : Nat → Int × Nat × Nat} (hA : mA M A) (hB : mB M B) (hH : mH M A) (h1 : 1 ≤ heap) (hh : heap < 2 ^ aP A) (hO : ∀ k, 1 ≤ k → k < heap → xL M (134, 0) k = lZ (TO k)) (hR : ∀ k, 1 ≤ k → k < heap → xI M (138, 0) k = iZ (TR k)) (hL : ∀ k, 1 ≤ k → k < heap → xI M (135, 0) k = iZ (TL k).1) (bR : ∀ k, 1 ≤ k → k < heap → -1 ≤ TR k ∧ TR k ≤ k) (bL : ∀ k, 1 ≤ k → k < heap → -1 ≤ (TL k).1 ∧ (TL k).1 ≤ 1089 * (k - 1)) :
    ∃ M', fX12_counts [.inr (.inr (12, 0)), .inl (iZ (heap))] M = some (none, M') ∧ cI M heap (ordP on1 ok1 (prt A B) heap TO heap) (rndP (prt A B) heap TR heap) (leaP on1 ok1 (gdw A B) (cstA A) heap TL heap) M' := by
  have hP := pow9 hA.ok.P
  have hh5 : heap < 512 := by omega
  obtain ⟨M1, a1, a2⟩ : ∃ M1, fX12_counts [.inr (.inr (12, 0)), .inl (iZ (heap))] M = xfix gX12_counts (61, [some (.inr (.inr (12, 0))), some (.inl (iZ (heap))), none, some (.inl (iZ ((1 : Nat)))), none, none, none], [], M1) ∧ cI M heap (ordP on1 ok1 (prt A B) heap TO 1) (rndP (prt A B) heap TR 1) (leaP on1 ok1 (gdw A B) (cstA A) heap TL 1) M1 := by
    have z1 : ¬ hlf on1 ok1 heap 0 := fun z => by have := z.2.1; omega
    have e1 : ordP on1 ok1 (prt A B) heap TO 1 = @ite _ (on1 heap) (Classical.propDecidable _) 1 0 := by
      unfold ordP
      rw [show sm (fun half => @ite _ (hlf on1 ok1 heap half ∧ half < ndn heap half ∧ prt A B heap half) (Classical.propDecidable _) (TO half * TO (ndn heap half)) 0) 1 = 0 + @ite _ (hlf on1 ok1 heap 0 ∧ 0 < ndn heap 0 ∧ prt A B heap 0) (Classical.propDecidable _) (TO 0 * TO (ndn heap 0)) 0 from rfl, if_neg (c := hlf on1 ok1 heap 0 ∧ 0 < ndn heap 0 ∧ prt A B heap 0) (fun z => z1 z.1)]
      omega
    have e2 : rndP (prt A B) heap TR 1 = if bc heap = 1 then 0 else -1 := by
      unfold rndP
      rw [if_neg (fun z => z1 z.1)]
      rfl
    have e3 : leaP on1 ok1 (gdw A B) (cstA A) heap TL 1 = @ite _ (on1 heap) (Classical.propDecidable _) (0, 0, 0) (-1, 0, 0) := by
      unfold leaP
      rw [if_neg (fun z => z1 z.1)]
      rfl
    have hb := bc_le heap
    rw [e1, e2, e3]
    by_cases ho : on1 heap
    · rw [if_pos ho, if_pos ho, if_pos ho]
      refine ⟨xpI (xpI (xpL M (134, 0) heap (lZ 1)) (135, 0) heap (iZ 0)) (138, 0) heap (iZ 0), ?_, ((xSm.rf.pL ⟨rfl, by decide⟩).pI ⟨rfl, by decide⟩).pI ⟨rfl, by decide⟩, by rw [xL_pI, xL_pI, xL_pL, if_pos ⟨rfl, rfl⟩], by rw [xI_pI, if_pos ⟨rfl, rfl⟩], by rw [xI_pI_ne (by decide), xI_pI, if_pos ⟨rfl, rfl⟩], fun z => absurd ho z⟩
      show xfix gX12_counts (0, [some (.inr (.inr (12, 0))), some (.inl (iZ (heap))), none, none, none, none, none], [], M) = _; rw [xfix_unf, sX12_counts_0]
      simp (disch := omega) only [xk_none, xk_inl, xk_inr, xk_ite, xri_v, xrl_v, xrv_v, xb_z0, xb_z1, xb_b2, if_true, if_false, ite_true, ite_false, iZ_lit, iZ_m1, iZ_m99, iZ_m8, iZ_add, iZ_sub, iZ_mul, iZ_neg, nz0, nzi, iZ_lt, iZ_le, iZ_inj, b2_z, b2_o, ite_bPz, ite_bPo, xb_bP, iZ_xin, if_pos, ite_self, ↓reduceIte, Int.reduceAdd, Int.reduceSub, Int.reduceMul, Int.reduceNeg, Int.reduceLT, Int.reduceLE, if_neg, nS, iZ_clampN, iZ_bit, iZ_one, iZ_and, iZ_or, iZ_ndn, m_bits M (v := heap) (by omega)]
      rw [xfix_unf, sX12_counts_13]
      simp (disch := omega) only [xk_none, xk_inl, xk_inr, xk_ite, xri_v, xrl_v, xrv_v, xb_z0, xb_z1, xb_b2, if_true, if_false, ite_true, ite_false, iZ_lit, iZ_m1, iZ_m99, iZ_m8, iZ_add, iZ_sub, iZ_mul, iZ_neg, nz0, nzi, iZ_lt, iZ_le, iZ_inj, b2_z, b2_o, ite_bPz, ite_bPo, xb_bP, iZ_xin, if_pos, ite_self, ↓reduceIte, Int.reduceAdd, Int.reduceSub, Int.reduceMul, Int.reduceNeg, Int.reduceLT, Int.reduceLE, if_neg, nS, iZ_clampN, iZ_bit, iZ_one, iZ_and, iZ_or, iZ_ndn]
      rw [xfix_unf, sX12_counts_28]
      simp (disch := omega) only [xk_none, xk_inl, xk_inr, xk_ite, xri_v, xrl_v, xrv_v, xb_z0, xb_z1, xb_b2, if_true, if_false, ite_true, ite_false, iZ_lit, iZ_m1, iZ_m99, iZ_m8, iZ_add, iZ_sub, iZ_mul, iZ_neg, nz0, nzi, iZ_lt, iZ_le, iZ_inj, b2_z, b2_o, ite_bPz, ite_bPo, xb_bP, iZ_xin, if_pos, ite_self, ↓reduceIte, Int.reduceAdd, Int.reduceSub, Int.reduceMul, Int.reduceNeg, Int.reduceLT, Int.reduceLE, if_neg, nS, iZ_clampN, iZ_bit, iZ_one, iZ_and, iZ_or, iZ_ndn]
      rw [xfix_unf, sX12_counts_43]
      simp (disch := omega) only [xk_none, xk_inl, xk_inr, xk_ite, xri_v, xrl_v, xrv_v, xb_z0, xb_z1, xb_b2, if_true, if_false, ite_true, ite_false, iZ_lit, iZ_m1, iZ_m99, iZ_m8, iZ_add, iZ_sub, iZ_mul, iZ_neg, nz0, nzi, iZ_lt, iZ_le, iZ_inj, b2_z, b2_o, ite_bPz, ite_bPo, xb_bP, iZ_xin, if_pos, ite_self, ↓reduceIte, Int.reduceAdd, Int.reduceSub, Int.reduceMul, Int.reduceNeg, Int.reduceLT, Int.reduceLE, if_neg, nS, iZ_clampN, iZ_bit, iZ_one, iZ_and, iZ_or, iZ_ndn, lZ_lit]
      rfl
    · rw [if_neg ho, if_neg ho, if_neg ho]
      have ho' : ¬ bc heap = 1 := ho
      refine ⟨xpI (xpI (xpL M (134, 0) heap (lZ 0)) (135, 0) heap (iZ (-1))) (138, 0) heap (iZ (-1)), ?_, ((xSm.rf.pL ⟨rfl, by decide⟩).pI ⟨rfl, by decide⟩).pI ⟨rfl, by decide⟩, by rw [xL_pI, xL_pI, xL_pL, if_pos ⟨rfl, rfl⟩], by rw [xI_pI, if_pos ⟨rfl, rfl⟩], by rw [xI_pI_ne (by decide), xI_pI, if_pos ⟨rfl, rfl⟩], fun _ z => absurd rfl z⟩
      show xfix gX12_counts (0, [some (.inr (.inr (12, 0))), some (.inl (iZ (heap))), none, none, none, none, none], [], M) = _; rw [xfix_unf, sX12_counts_0]
      simp (disch := omega) only [xk_none, xk_inl, xk_inr, xk_ite, xri_v, xrl_v, xrv_v, xb_z0, xb_z1, xb_b2, if_true, if_false, ite_true, ite_false, iZ_lit, iZ_m1, iZ_m99, iZ_m8, iZ_add, iZ_sub, iZ_mul, iZ_neg, nz0, nzi, iZ_lt, iZ_le, iZ_inj, b2_z, b2_o, ite_bPz, ite_bPo, xb_bP, iZ_xin, if_pos, ite_self, ↓reduceIte, Int.reduceAdd, Int.reduceSub, Int.reduceMul, Int.reduceNeg, Int.reduceLT, Int.reduceLE, if_neg, nS, iZ_clampN, iZ_bit, iZ_one, iZ_and, iZ_or, iZ_ndn, m_bits M (v := heap) (by omega)]
      rw [xfix_unf, sX12_counts_13]
      simp (disch := omega) only [xk_none, xk_inl, xk_inr, xk_ite, xri_v, xrl_v, xrv_v, xb_z0, xb_z1, xb_b2, if_true, if_false, ite_true, ite_false, iZ_lit, iZ_m1, iZ_m99, iZ_m8, iZ_add, iZ_sub, iZ_mul, iZ_neg, nz0, nzi, iZ_lt, iZ_le, iZ_inj, b2_z, b2_o, ite_bPz, ite_bPo, xb_bP, iZ_xin, if_pos, ite_self, ↓reduceIte, Int.reduceAdd, Int.reduceSub, Int.reduceMul, Int.reduceNeg, Int.reduceLT, Int.reduceLE, if_neg, nS, iZ_clampN, iZ_bit, iZ_one, iZ_and, iZ_or, iZ_ndn]
      rw [xfix_unf, sX12_counts_28]
      simp (disch := omega) only [xk_none, xk_inl, xk_inr, xk_ite, xri_v, xrl_v, xrv_v, xb_z0, xb_z1, xb_b2, if_true, if_false, ite_true, ite_false, iZ_lit, iZ_m1, iZ_m99, iZ_m8, iZ_add, iZ_sub, iZ_mul, iZ_neg, nz0, nzi, iZ_lt, iZ_le, iZ_inj, b2_z, b2_o, ite_bPz, ite_bPo, xb_bP, iZ_xin, if_pos, ite_self, ↓reduceIte, Int.reduceAdd, Int.reduceSub, Int.reduceMul, Int.reduceNeg, Int.reduceLT, Int.reduceLE, if_neg, nS, iZ_clampN, iZ_bit, iZ_one, iZ_and, iZ_or, iZ_ndn]
      rw [xfix_unf, sX12_counts_43]
      simp (disch := omega) only [xk_none, xk_inl, xk_inr, xk_ite, xri_v, xrl_v, xrv_v, xb_z0, xb_z1, xb_b2, if_true, if_false, ite_true, ite_false, iZ_lit, iZ_m1, iZ_m99, iZ_m8, iZ_add, iZ_sub, iZ_mul, iZ_neg, nz0, nzi, iZ_lt, iZ_le, iZ_inj, b2_z, b2_o, ite_bPz, ite_bPo, xb_bP, iZ_xin, if_pos, ite_self, ↓reduceIte, Int.reduceAdd, Int.reduceSub, Int.reduceMul, Int.reduceNeg, Int.reduceLT, Int.reduceLE, if_neg, nS, iZ_clampN, iZ_bit, iZ_one, iZ_and, iZ_or, iZ_ndn, lZ_lit]
      rfl
  obtain ⟨M2, b1, b2⟩ := xfor_M (sg := gX12_counts) (st := fun k M => (61, [some (.inr (.inr (12, 0))), some (.inl (iZ (heap))), none, some (.inl (iZ (k))), none, none, none], [], M)) (I := fun k N => 1 ≤ k ∧ cI M heap (ordP on1 ok1 (prt A B) heap TO k) (rndP (prt A B) heap TR k) (leaP on1 ok1 (gdw A B) (cstA A) heap TL k) N) (n := heap) (fun k N hk hN => by
    obtain ⟨hk1, hN⟩ := hN
    have e1 : ordP on1 ok1 (prt A B) heap TO (k + 1) = ordP on1 ok1 (prt A B) heap TO k + @ite _ (hlf on1 ok1 heap k ∧ k < ndn heap k ∧ prt A B heap k) (Classical.propDecidable _) (TO k * TO (ndn heap k)) 0 := (Int.add_assoc _ _ _).symm
    have e2 : rndP (prt A B) heap TR (k + 1) = @ite _ (hlf on1 ok1 heap k ∧ k < ndn heap k ∧ prt A B heap k ∧ rnd2 (TR k) (TR (ndn heap k)) ≠ -1 ∧ (rndP (prt A B) heap TR k = -1 ∨ rnd2 (TR k) (TR (ndn heap k)) < rndP (prt A B) heap TR k)) (Classical.propDecidable _) (rnd2 (TR k) (TR (ndn heap k))) (rndP (prt A B) heap TR k) := rfl
    have e3 : leaP on1 ok1 (gdw A B) (cstA A) heap TL (k + 1) = @ite _ (hlf on1 ok1 heap k ∧ (TL k).1 ≠ -1 ∧ (TL (ndn heap k)).1 ≠ -1) (Classical.propDecidable _) (leaW (gdw A B) (cstA A) heap k ((TL k).1 + (TL (ndn heap k)).1) (leaP on1 ok1 (gdw A B) (cstA A) heap TL k) 6) (leaP on1 ok1 (gdw A B) (cstA A) heap TL k) := rfl
    have bb := leaP_b (one := on1) (ok := ok1) (gw := gdw A B) h1 (fun w hw => cstA_b hA.ok heap hw) bL k (by omega)
    have br := rndP_b (pt := prt A B) bR k (by omega)
    by_cases c0 : hlf on1 ok1 heap k
    · have hr := hlf_rest c0 hk
      have hsub := c0.2.2.1
      obtain ⟨N2, g1, g2⟩ := cnt_part hA hB hh5 hsub hk1 hk hO hR bR (by omega) hN
      have e4 : (@ite _ (k < ndn heap k ∧ prt A B heap k) (Classical.propDecidable _) (ordP on1 ok1 (prt A B) heap TO k + TO k * TO (ndn heap k)) (ordP on1 ok1 (prt A B) heap TO k)) = ordP on1 ok1 (prt A B) heap TO (k + 1) := by
        rw [e1]
        by_cases d : k < ndn heap k ∧ prt A B heap k
        · rw [if_pos d, if_pos ⟨c0, d⟩]
        · rw [if_neg d, if_neg (fun z => d z.2)]; omega
      have e5 : (@ite _ (k < ndn heap k ∧ prt A B heap k) (Classical.propDecidable _) (rnd3 (rnd2 (TR k) (TR (ndn heap k))) (rndP (prt A B) heap TR k)) (rndP (prt A B) heap TR k)) = rndP (prt A B) heap TR (k + 1) := by
        rw [e2]
        unfold rnd3
        by_cases d : k < ndn heap k ∧ prt A B heap k
        · rw [if_pos d]
          by_cases d2 : rnd2 (TR k) (TR (ndn heap k)) ≠ -1 ∧ (rndP (prt A B) heap TR k = -1 ∨ rnd2 (TR k) (TR (ndn heap k)) < rndP (prt A B) heap TR k)
          · rw [if_pos d2, if_pos ⟨c0, d.1, d.2, d2⟩]
          · rw [if_neg d2, if_neg (fun z => d2 z.2.2.2)]
        · rw [if_neg d, if_neg (fun z => d ⟨z.2.1, z.2.2.1⟩)]
      rw [e4, e5] at g2
      generalize ordP on1 ok1 (prt A B) heap TO (k + 1) = o at *
      generalize rndP (prt A B) heap TR (k + 1) = r at *
      rw [e3]
      have f1 : xI N2 (135, 0) k = iZ (TL k).1 := by rw [(g2.1 (135, 0) k (fun z => by omega)).1]; exact hL k hk1 hk
      have f2 : xI N2 (135, 0) (ndn heap k) = iZ (TL (ndn heap k)).1 := by rw [(g2.1 (135, 0) (ndn heap k) (fun z => by omega)).1]; exact hL _ (by omega) (by omega)
      have q1 := bL k hk1 hk
      have q2 := bL (ndn heap k) (by omega) (by omega)
      have hNA := hA.cr g2.S
      by_cases d1 : (TL k).1 ≠ -1 ∧ (TL (ndn heap k)).1 ≠ -1
      · rw [if_pos ⟨c0, d1⟩]
        by_cases d2 : loose A heap k
        · obtain ⟨N3, x1, x2⟩ := cnt_ways hA hB hH h1 hh hsub hk1 hk c0.1 d2 (a := (TL k).1) (b := (TL (ndn heap k)).1) (by omega) (by omega) (by omega) (hL k hk1 hk) (hL _ (by omega) (by omega)) g2
          refine ⟨N3, ?_, by omega, x2⟩
          rw [nS, ← x1, g1]
          rw [xfix_unf, sX12_counts_218]
          simp (disch := omega) only [xk_none, xk_inl, xk_inr, xk_ite, xri_v, xrl_v, xrv_v, xb_z0, xb_z1, xb_b2, if_true, if_false, ite_true, ite_false, iZ_lit, iZ_m1, iZ_m99, iZ_m8, iZ_add, iZ_sub, iZ_mul, iZ_neg, nz0, nzi, iZ_lt, iZ_le, iZ_inj, b2_z, b2_o, ite_bPz, ite_bPo, xb_bP, iZ_xin, if_pos, ite_self, ↓reduceIte, Int.reduceAdd, Int.reduceSub, Int.reduceMul, Int.reduceNeg, Int.reduceLT, Int.reduceLE, if_neg, nS, iZ_clampN, iZ_bit, iZ_one, iZ_and, iZ_or, iZ_ndn, f1, f2, m_isLoose hNA hh5 (by omega : k < 512), d2]
          rfl
        · rw [leaW_no (fun w z => d2 z.2)]
          refine ⟨N2, ?_, by omega, g2⟩
          rw [nS, g1]
          rw [xfix_unf, sX12_counts_218]
          simp (disch := omega) only [xk_none, xk_inl, xk_inr, xk_ite, xri_v, xrl_v, xrv_v, xb_z0, xb_z1, xb_b2, if_true, if_false, ite_true, ite_false, iZ_lit, iZ_m1, iZ_m99, iZ_m8, iZ_add, iZ_sub, iZ_mul, iZ_neg, nz0, nzi, iZ_lt, iZ_le, iZ_inj, b2_z, b2_o, ite_bPz, ite_bPo, xb_bP, iZ_xin, if_pos, ite_self, ↓reduceIte, Int.reduceAdd, Int.reduceSub, Int.reduceMul, Int.reduceNeg, Int.reduceLT, Int.reduceLE, if_neg, nS, iZ_clampN, iZ_bit, iZ_one, iZ_and, iZ_or, iZ_ndn, f1, f2, m_isLoose hNA hh5 (by omega : k < 512), d2]
      · rw [if_neg (fun z => d1 z.2)]
        refine ⟨N2, ?_, by omega, g2⟩
        rw [nS, g1]
        rw [xfix_unf, sX12_counts_218]
        simp (disch := omega) only [xk_none, xk_inl, xk_inr, xk_ite, xri_v, xrl_v, xrv_v, xb_z0, xb_z1, xb_b2, if_true, if_false, ite_true, ite_false, iZ_lit, iZ_m1, iZ_m99, iZ_m8, iZ_add, iZ_sub, iZ_mul, iZ_neg, nz0, nzi, iZ_lt, iZ_le, iZ_inj, b2_z, b2_o, ite_bPz, ite_bPo, xb_bP, iZ_xin, if_pos, ite_self, ↓reduceIte, Int.reduceAdd, Int.reduceSub, Int.reduceMul, Int.reduceNeg, Int.reduceLT, Int.reduceLE, if_neg, nS, iZ_clampN, iZ_bit, iZ_one, iZ_and, iZ_or, iZ_ndn, f1, f2]
    · rw [e1, e2, e3, if_neg (fun z => c0 z.1), if_neg (fun z => c0 z.1), if_neg (fun z => c0 z.1), Int.add_zero]
      refine ⟨N, ?_, by omega, hN⟩
      have hns : ¬ ndn k heap = 0 := fun z => by
        have hs := ndn_and.mp z
        by_cases ho : on1 heap
        · exact bc_1 hh5 ho hs (by omega) hk
        · exact c0 ⟨ho, hk1, hs, trivial⟩
      have hle := ndn_le k heap
      rw [xfix_unf, sX12_counts_61]
      simp (disch := omega) only [xk_none, xk_inl, xk_inr, xk_ite, xri_v, xrl_v, xrv_v, xb_z0, xb_z1, xb_b2, if_true, if_false, ite_true, ite_false, iZ_lit, iZ_m1, iZ_m99, iZ_m8, iZ_add, iZ_sub, iZ_mul, iZ_neg, nz0, nzi, iZ_lt, iZ_le, iZ_inj, b2_z, b2_o, ite_bPz, ite_bPo, xb_bP, iZ_xin, if_pos, ite_self, ↓reduceIte, Int.reduceAdd, Int.reduceSub, Int.reduceMul, Int.reduceNeg, Int.reduceLT, Int.reduceLE, if_neg, nS, iZ_clampN, iZ_bit, iZ_one, iZ_and, iZ_or, iZ_ndn, hns]) (a := 1) (M := M1) h1 ⟨by omega, a2⟩
  refine ⟨M2, a1.trans (b1.trans ?_), b2.2⟩
  rw [xfix_unf, sX12_counts_61]
  simp (disch := omega) only [xk_none, xk_inl, xk_inr, xk_ite, xri_v, xrl_v, xrv_v, xb_z0, xb_z1, xb_b2, if_true, if_false, ite_true, ite_false, iZ_lit, iZ_m1, iZ_m99, iZ_m8, iZ_add, iZ_sub, iZ_mul, iZ_neg, nz0, nzi, iZ_lt, iZ_le, iZ_inj, b2_z, b2_o, ite_bPz, ite_bPo, xb_bP, iZ_xin, if_pos, ite_self, ↓reduceIte, Int.reduceAdd, Int.reduceSub, Int.reduceMul, Int.reduceNeg, Int.reduceLT, Int.reduceLE, if_neg, nS, iZ_clampN, iZ_bit, iZ_one, iZ_and, iZ_or, iZ_ndn]
