/-! the reference: times -/
noncomputable def lsI (p : Nat → Prop) (n : Nat) : Int := if lst p n < n then (lst p n : Int) else -1
theorem lsI_b (p : Nat → Prop) (n : Nat) : -1 ≤ lsI p n ∧ lsI p n < n := by unfold lsI; split <;> omega
theorem lsI_b5 (p : Nat → Prop) : -1 ≤ lsI p 5000 ∧ lsI p 5000 ≤ 5000 := by
  have h := lsI_b p 5000
  generalize lsI p 5000 = x at *
  omega
theorem lsI_cg {p q : Nat → Prop} {n : Nat} (h : ∀ i, i < n → (p i ↔ q i)) : lsI p n = lsI q n := by unfold lsI; rw [lst_cg h]
theorem lsI_or (p : Nat → Prop) {a n : Nat} (h : a < n) : lsI (fun x => p x ∨ x = a) n = if lsI p n = -1 ∨ (a : Int) < lsI p n then (a : Int) else lsI p n := by
  have h0 := lst_le p n
  unfold lsI
  rw [lst_or _ _ _ (by omega)]
  by_cases e : a < lst p n
  · rw [if_pos e, if_pos h]
    by_cases e2 : lst p n < n
    · rw [if_pos e2, if_pos (by omega)]
    · rw [if_neg e2, if_pos (by omega)]
  · rw [if_neg e, if_pos (by omega), if_neg (by omega)]
theorem lsI_F (n : Nat) : lsI (fun _ => False) n = -1 := by unfold lsI; rw [lst_F, if_neg (by omega)]
def imx (a b : Int) : Int := if b < a then a else b
noncomputable def tc1 (A : dA) (heap half w : Nat) (T : Nat → Int × Int) : Int := mnt A heap half w + (T half).1 + (T (ndn heap half)).1
noncomputable def tc2 (A : dA) (heap half w : Nat) (T : Nat → Int × Int) : Int := mnt A heap half w + imx (T half).2 (T (ndn heap half)).2
def tOk (A : dA) (heap half : Nat) (T : Nat → Int × Int) : Prop := 1 ≤ half ∧ half &&& heap = half ∧ (T half).1 ≠ -1 ∧ (T (ndn heap half)).1 ≠ -1
def tq1 (A : dA) (heap : Nat) (T : Nat → Int × Int) (k v : Nat) : Prop := ∃ half, half < k ∧ tOk A heap half T ∧ ∃ w, w < 6 ∧ gdw A (barS A) heap half w ∧ (v : Int) = tc1 A heap half w T
def tq2 (A : dA) (heap : Nat) (T : Nat → Int × Int) (k v : Nat) : Prop := ∃ half, half < k ∧ tOk A heap half T ∧ ∃ w, w < 6 ∧ gdw A (barS A) heap half w ∧ (v : Int) = tc2 A heap half w T
noncomputable def timP (A : dA) (heap : Nat) (T : Nat → Int × Int) (k : Nat) : Int × Int := if bc heap = 1 then (0, 0) else (lsI (tq1 A heap T k) 5000, lsI (tq2 A heap T k) 5000)
noncomputable def timT (A : dA) : Nat → Nat → Int × Int := tab (-1, -1) fun heap T => timP A heap T heap
noncomputable def timA (A : dA) (k : Nat) : Int × Int := timT A (k + 1) k
theorem timA_st {A : dA} {k n : Nat} (h : k < n) : timT A n k = timA A k := tab_st _ _ h (by omega)
theorem timA_eq (A : dA) (k : Nat) : timA A k = timP A k (timT A k) k := tab_at _ _ (by omega)
/-- times in their bounds -/
def tB (p : Int × Int) (k : Nat) : Prop := (-1 ≤ p.1 ∧ p.1 ≤ 8 * ((k : Int) - 1)) ∧ (-1 ≤ p.2 ∧ p.2 ≤ 8 * ((k : Int) - 1)) ∧ (p.1 = -1 ↔ p.2 = -1)
theorem tB_mk {x y : Int} {k : Nat} (h1 : -1 ≤ x ∧ x ≤ 8 * ((k : Int) - 1)) (h2 : -1 ≤ y ∧ y ≤ 8 * ((k : Int) - 1)) (h3 : x = -1 ↔ y = -1) : tB (x, y) k := ⟨h1, h2, h3⟩
theorem lsI_ex {p : Nat → Prop} {n : Nat} (h : lsI p n ≠ -1) : ∃ v : Nat, v < n ∧ lsI p n = v ∧ p v := by
  unfold lsI at h ⊢
  split at h
  · rename_i h1
    exact ⟨lst p n, h1, by rw [if_pos h1], lst_is p n h1⟩
  · exact absurd rfl h
theorem lsI_ne {p : Nat → Prop} {n v : Nat} (hv : v < n) (h : p v) : lsI p n ≠ -1 := by
  unfold lsI
  have : ¬ v < lst p n := fun z => lst_no p n v z h
  rw [if_pos (by omega)]
  omega
theorem tc_b {A : dA} {heap half w : Nat} {T : Nat → Int × Int} (hT : ∀ k, 1 ≤ k → k < heap → tB (T k) k) (hh : half < heap) (hw : w < 6) (h : tOk A heap half T) : (0 ≤ tc1 A heap half w T ∧ tc1 A heap half w T ≤ 8 * ((heap : Int) - 1)) ∧ (0 ≤ tc2 A heap half w T ∧ tc2 A heap half w T ≤ 8 * ((heap : Int) - 1)) := by
  have h1 := ndn_add heap half h.2.1
  have h2 := hT half h.1 hh
  have h0 := h.1
  have h3 := hT (ndn heap half) (by omega) (by omega)
  have h4 := mnt_le (A := A) (heap := heap) (half := half) hw
  have h5 := h.2.2.1
  have h6 := h.2.2.2
  obtain ⟨⟨a1, a2⟩, ⟨a3, a4⟩, a5⟩ := h2
  obtain ⟨⟨b1, b2⟩, ⟨b3, b4⟩, b5⟩ := h3
  have h7 : (T half).2 ≠ -1 := fun z => h5 (a5.mpr z)
  have h8 : (T (ndn heap half)).2 ≠ -1 := fun z => h6 (b5.mpr z)
  unfold tc1 tc2 imx
  split <;> omega
theorem timP_b {A : dA} {heap : Nat} {T : Nat → Int × Int} (h1 : 1 ≤ heap) (hh : heap < 512) (hT : ∀ k, 1 ≤ k → k < heap → tB (T k) k) {k : Nat} (hk : k ≤ heap) : tB (timP A heap T k) heap := by
  unfold timP
  split
  · exact ⟨⟨by show (-1 : Int) ≤ 0; omega, by show (0 : Int) ≤ _; omega⟩, ⟨by show (-1 : Int) ≤ 0; omega, by show (0 : Int) ≤ _; omega⟩, Iff.rfl⟩
  · have c1 := lsI_b (tq1 A heap T k) 5000
    have c2 := lsI_b (tq2 A heap T k) 5000
    refine tB_mk ⟨c1.1, ?_⟩ ⟨c2.1, ?_⟩ ⟨fun z => ?_, fun z => ?_⟩
    · by_cases e : lsI (tq1 A heap T k) 5000 = -1
      · omega
      · obtain ⟨v, v1, v2, half, q1, q2, w, q3, q4, q5⟩ := lsI_ex e
        have := tc_b hT (by omega) q3 q2
        omega
    · by_cases e : lsI (tq2 A heap T k) 5000 = -1
      · omega
      · obtain ⟨v, v1, v2, half, q1, q2, w, q3, q4, q5⟩ := lsI_ex e
        have := tc_b hT (by omega) q3 q2
        omega
    · refine Classical.byContradiction fun e => ?_
      obtain ⟨v, v1, v2, half, q1, q2, w, q3, q4, q5⟩ := lsI_ex e
      have hb := tc_b hT (by omega) q3 q2
      exact lsI_ne (p := tq1 A heap T k) (v := (tc1 A heap half w T).toNat) (by omega) ⟨half, q1, q2, w, q3, q4, by omega⟩ z
    · refine Classical.byContradiction fun e => ?_
      obtain ⟨v, v1, v2, half, q1, q2, w, q3, q4, q5⟩ := lsI_ex e
      have hb := tc_b hT (by omega) q3 q2
      exact lsI_ne (p := tq2 A heap T k) (v := (tc2 A heap half w T).toNat) (by omega) ⟨half, q1, q2, w, q3, q4, by omega⟩ z
theorem timT_b {A : dA} : ∀ n k, 1 ≤ k → k < n → k < 512 → tB (timT A n k) k := by
  intro n k
  induction k using Nat.strongRecOn generalizing n with
  | ind k ih =>
    intro h1 h2 h3
    unfold timT
    rw [tab_at _ _ h2]
    exact timP_b h1 h3 (fun j h3 h4 => ih j h4 k h3 h4 (by omega)) (Nat.le_refl _)
abbrev uR (r : xR) : Prop := r = (178, 0) ∨ r = (179, 0) ∨ r = (180, 0) ∨ r = (181, 0)
def tI (M : xM) (heap : Nat) (a b : Int) (N : xM) : Prop := xSm (fun r j => tR r ∨ (j = heap ∧ (r = (180, 0) ∨ r = (181, 0)))) M N ∧ xI N (180, 0) heap = iZ a ∧ xI N (181, 0) heap = iZ b
theorem tI.S {M N : xM} {heap : Nat} {a b : Int} (h : tI M heap a b N) : xSame uR M N := h.1.S fun r j z => z.elim (fun z => z.elim .inl fun z => .inr (.inl z)) (fun z => .inr (.inr z.2))
theorem mLs.ur {M M' : xM} {A : dA} (h : mLs M A) (hs : xSame uR M M') : mLs M' A := h.sm hs.sm (by
  intro r hr j
  simp only [List.mem_cons, List.mem_nil_iff, or_false] at hr
  rcases hr with e | e | e <;> subst e <;> decide)
theorem tim_186 {M N : xM} {heap half rest w : Nat} {a b : Int} {s1 t0 t1 : Int} (hh : heap < 512) (ha : -1 ≤ a ∧ a ≤ 5000) (hb : -1 ≤ b ∧ b ≤ 5000) (h1 : 0 ≤ s1 ∧ s1 < 5000) (h2 : 0 ≤ t1 + t0 ∧ t1 + t0 < 5000) (hI : tI M heap a b N) : ∃ N', xfix gX12_times (186, [some (.inr (.inr (12, 0))), some (.inl (iZ (heap))), none, some (.inl (iZ (half))), some (.inl (iZ (rest))), some (.inl (iZ (w))), none, some (.inl (iZ (s1))), none], [.inl (iZ (t0)), .inl (iZ (t1))], N) = xfix gX12_times (102, [some (.inr (.inr (12, 0))), some (.inl (iZ (heap))), none, some (.inl (iZ (half))), some (.inl (iZ (rest))), some (.inl (iZ (((w : Int) + 1)))), none, none, none], [], N') ∧ tI M heap (if a = -1 ∨ s1 < a then s1 else a) (if b = -1 ∨ t1 + t0 < b then t1 + t0 else b) N' := by
  have e218 : ∀ (N : xM) (a' : Int), tI M heap a' b N → ∃ N', xfix gX12_times (218, [some (.inr (.inr (12, 0))), some (.inl (iZ (heap))), none, some (.inl (iZ (half))), some (.inl (iZ (rest))), some (.inl (iZ (w))), none, none, some (.inl (iZ ((t1 + t0))))], [], N) = xfix gX12_times (102, [some (.inr (.inr (12, 0))), some (.inl (iZ (heap))), none, some (.inl (iZ (half))), some (.inl (iZ (rest))), some (.inl (iZ (((w : Int) + 1)))), none, none, none], [], N') ∧ tI M heap a' (if b = -1 ∨ t1 + t0 < b then t1 + t0 else b) N' := fun N a' hI => by
    have f := hI.2.2
    by_cases c : b = -1 ∨ t1 + t0 < b
    · rw [if_pos c]
      refine ⟨xpI N (181, 0) heap (iZ (t1 + t0)), ?_, hI.1.pI (.inr ⟨rfl, .inr rfl⟩), by rw [xI_pI_ne (by decide)]; exact hI.2.1, by rw [xI_pI, if_pos ⟨rfl, rfl⟩]⟩
      rw [xfix_unf, sX12_times_218]
      simp (disch := omega) only [xk_none, xk_inl, xk_inr, xk_ite, xri_v, xrl_v, xrv_v, xb_z0, xb_z1, xb_b2, if_true, if_false, ite_true, ite_false, iZ_lit, iZ_m1, iZ_m99, iZ_m8, iZ_add, iZ_sub, iZ_mul, iZ_neg, nz0, nzi, iZ_lt, iZ_le, iZ_inj, b2_z, b2_o, ite_bPz, ite_bPo, xb_bP, iZ_xin, if_pos, ite_self, ↓reduceIte, Int.reduceAdd, Int.reduceSub, Int.reduceMul, Int.reduceNeg, Int.reduceLT, Int.reduceLE, if_neg, nS, iZ_clampN, iZ_bit, iZ_one, iZ_and, iZ_or, iZ_ndn, f]
    · rw [if_neg c]
      refine ⟨N, ?_, hI⟩
      rw [xfix_unf, sX12_times_218]
      simp (disch := omega) only [xk_none, xk_inl, xk_inr, xk_ite, xri_v, xrl_v, xrv_v, xb_z0, xb_z1, xb_b2, if_true, if_false, ite_true, ite_false, iZ_lit, iZ_m1, iZ_m99, iZ_m8, iZ_add, iZ_sub, iZ_mul, iZ_neg, nz0, nzi, iZ_lt, iZ_le, iZ_inj, b2_z, b2_o, ite_bPz, ite_bPo, xb_bP, iZ_xin, if_pos, ite_self, ↓reduceIte, Int.reduceAdd, Int.reduceSub, Int.reduceMul, Int.reduceNeg, Int.reduceLT, Int.reduceLE, if_neg, nS, iZ_clampN, iZ_bit, iZ_one, iZ_and, iZ_or, iZ_ndn, f]
  have f := hI.2.1
  by_cases c : a = -1 ∨ s1 < a
  · rw [if_pos c]
    obtain ⟨N', g1, g2⟩ := e218 (xpI N (180, 0) heap (iZ s1)) s1 ⟨hI.1.pI (.inr ⟨rfl, .inl rfl⟩), by rw [xI_pI, if_pos ⟨rfl, rfl⟩], by rw [xI_pI_ne (by decide)]; exact hI.2.2⟩
    refine ⟨N', ?_, g2⟩
    rw [← g1]
    rw [xfix_unf, sX12_times_186]
    simp (disch := omega) only [xk_none, xk_inl, xk_inr, xk_ite, xri_v, xrl_v, xrv_v, xb_z0, xb_z1, xb_b2, if_true, if_false, ite_true, ite_false, iZ_lit, iZ_m1, iZ_m99, iZ_m8, iZ_add, iZ_sub, iZ_mul, iZ_neg, nz0, nzi, iZ_lt, iZ_le, iZ_inj, b2_z, b2_o, ite_bPz, ite_bPo, xb_bP, iZ_xin, if_pos, ite_self, ↓reduceIte, Int.reduceAdd, Int.reduceSub, Int.reduceMul, Int.reduceNeg, Int.reduceLT, Int.reduceLE, if_neg, nS, iZ_clampN, iZ_bit, iZ_one, iZ_and, iZ_or, iZ_ndn, f]
  · rw [if_neg c]
    obtain ⟨N', g1, g2⟩ := e218 N a hI
    refine ⟨N', ?_, g2⟩
    rw [← g1]
    rw [xfix_unf, sX12_times_186]
    simp (disch := omega) only [xk_none, xk_inl, xk_inr, xk_ite, xri_v, xrl_v, xrv_v, xb_z0, xb_z1, xb_b2, if_true, if_false, ite_true, ite_false, iZ_lit, iZ_m1, iZ_m99, iZ_m8, iZ_add, iZ_sub, iZ_mul, iZ_neg, nz0, nzi, iZ_lt, iZ_le, iZ_inj, b2_z, b2_o, ite_bPz, ite_bPo, xb_bP, iZ_xin, if_pos, ite_self, ↓reduceIte, Int.reduceAdd, Int.reduceSub, Int.reduceMul, Int.reduceNeg, Int.reduceLT, Int.reduceLE, if_neg, nS, iZ_clampN, iZ_bit, iZ_one, iZ_and, iZ_or, iZ_ndn, f]
theorem tim_ways {A : dA} {M N : xM} {heap half : Nat} {T : Nat → Int × Int} (hA : mA M A) (hB : mB M (barS A)) (hL : mLs M A) (hh : heap < 2 ^ aP A) (hk : half < heap) (ho : tOk A heap half T) (hl : loose A heap half) (hT : ∀ k, 1 ≤ k → k < heap → tB (T k) k) (h0 : ∀ k, 1 ≤ k → k < heap → xI M (180, 0) k = iZ (T k).1 ∧ xI M (181, 0) k = iZ (T k).2) (hn : ¬ bc heap = 1) (hI : tI M heap (timP A heap T half).1 (timP A heap T half).2 N) : ∃ N', xfix gX12_times (102, [some (.inr (.inr (12, 0))), some (.inl (iZ (heap))), none, some (.inl (iZ (half))), some (.inl (iZ ((ndn heap half)))), some (.inl (iZ ((0 : Nat)))), none, none, none], [], N) = xfix gX12_times (46, [some (.inr (.inr (12, 0))), some (.inl (iZ (heap))), none, some (.inl (iZ (((half : Int) + 1)))), none, none, none, none, none], [], N') ∧ tI M heap (timP A heap T (half + 1)).1 (timP A heap T (half + 1)).2 N' := by
  have hP := pow9 hA.ok.P
  have hrest := ndn_add heap half ho.2.1
  have ho1 := ho.1
  obtain ⟨N2, g1, g2⟩ := xfor_M (sg := gX12_times) (st := fun w M => (102, [some (.inr (.inr (12, 0))), some (.inl (iZ (heap))), none, some (.inl (iZ (half))), some (.inl (iZ ((ndn heap half)))), some (.inl (iZ (w))), none, none, none], [], M)) (I := fun w N => tI M heap (lsI (fun v => tq1 A heap T half v ∨ ∃ w', w' < w ∧ gdw A (barS A) heap half w' ∧ (v : Int) = tc1 A heap half w' T) 5000) (lsI (fun v => tq2 A heap T half v ∨ ∃ w', w' < w ∧ gdw A (barS A) heap half w' ∧ (v : Int) = tc2 A heap half w' T) 5000) N) (n := 6) (fun w N hw hN => by
    have hNA := hA.fr hN.S (by decide)
    have hNB := hB.fr hN.S (by decide)
    have hNL := hL.ur hN.S
    by_cases c1 : lv (aP A) (barS A) heap half w
    · obtain ⟨N3, m1, m2⟩ := m_minutesOf hNA hNL hh (by omega : half < 2 ^ aP A) hw
      have hN3 : tI M heap (lsI (fun v => tq1 A heap T half v ∨ ∃ w', w' < w ∧ gdw A (barS A) heap half w' ∧ (v : Int) = tc1 A heap half w' T) 5000) (lsI (fun v => tq2 A heap T half v ∨ ∃ w', w' < w ∧ gdw A (barS A) heap half w' ∧ (v : Int) = tc2 A heap half w' T) 5000) N3 := ⟨hN.1.tr (m2.sm.wk fun r j z => .inl z), by rw [(m2 (180, 0) (by decide)).1]; exact hN.2.1, by rw [(m2 (181, 0) (by decide)).1]; exact hN.2.2⟩
      have hb := tc_b hT hk hw ho
      have hb2 : tc2 A heap half w T = mnt A heap half w + imx (T half).2 (T (ndn heap half)).2 := rfl
      have b1 := lsI_b5 (fun v => tq1 A heap T half v ∨ ∃ w', w' < w ∧ gdw A (barS A) heap half w' ∧ (v : Int) = tc1 A heap half w' T)
      have b2 := lsI_b5 (fun v => tq2 A heap T half v ∨ ∃ w', w' < w ∧ gdw A (barS A) heap half w' ∧ (v : Int) = tc2 A heap half w' T)
      obtain ⟨v1, hv1⟩ : ∃ v : Nat, tc1 A heap half w T = v := ⟨(tc1 A heap half w T).toNat, by omega⟩
      obtain ⟨v2, hv2⟩ : ∃ v : Nat, tc2 A heap half w T = v := ⟨(tc2 A heap half w T).toNat, by omega⟩
      have e1 : lsI (fun v => tq1 A heap T half v ∨ ∃ w', w' < w + 1 ∧ gdw A (barS A) heap half w' ∧ (v : Int) = tc1 A heap half w' T) 5000 = (if lsI (fun v => tq1 A heap T half v ∨ ∃ w', w' < w ∧ gdw A (barS A) heap half w' ∧ (v : Int) = tc1 A heap half w' T) 5000 = -1 ∨ tc1 A heap half w T < lsI (fun v => tq1 A heap T half v ∨ ∃ w', w' < w ∧ gdw A (barS A) heap half w' ∧ (v : Int) = tc1 A heap half w' T) 5000 then tc1 A heap half w T else lsI (fun v => tq1 A heap T half v ∨ ∃ w', w' < w ∧ gdw A (barS A) heap half w' ∧ (v : Int) = tc1 A heap half w' T) 5000) := by
        rw [hv1, ← lsI_or _ (by omega)]
        refine lsI_cg fun v _ => ⟨?_, ?_⟩
        · rintro (a | ⟨w', x1, x2, x3⟩)
          · exact .inl (.inl a)
          · by_cases e : w' = w
            · subst e; exact .inr (by omega)
            · exact .inl (.inr ⟨w', by omega, x2, x3⟩)
        · rintro ((a | ⟨w', x1, x2⟩) | a)
          · exact .inl a
          · exact .inr ⟨w', by omega, x2⟩
          · exact .inr ⟨w, by omega, ⟨c1, hl⟩, by omega⟩
      have e2 : lsI (fun v => tq2 A heap T half v ∨ ∃ w', w' < w + 1 ∧ gdw A (barS A) heap half w' ∧ (v : Int) = tc2 A heap half w' T) 5000 = (if lsI (fun v => tq2 A heap T half v ∨ ∃ w', w' < w ∧ gdw A (barS A) heap half w' ∧ (v : Int) = tc2 A heap half w' T) 5000 = -1 ∨ tc2 A heap half w T < lsI (fun v => tq2 A heap T half v ∨ ∃ w', w' < w ∧ gdw A (barS A) heap half w' ∧ (v : Int) = tc2 A heap half w' T) 5000 then tc2 A heap half w T else lsI (fun v => tq2 A heap T half v ∨ ∃ w', w' < w ∧ gdw A (barS A) heap half w' ∧ (v : Int) = tc2 A heap half w' T) 5000) := by
        rw [hv2, ← lsI_or _ (by omega)]
        refine lsI_cg fun v _ => ⟨?_, ?_⟩
        · rintro (a | ⟨w', x1, x2, x3⟩)
          · exact .inl (.inl a)
          · by_cases e : w' = w
            · subst e; exact .inr (by omega)
            · exact .inl (.inr ⟨w', by omega, x2, x3⟩)
        · rintro ((a | ⟨w', x1, x2⟩) | a)
          · exact .inl a
          · exact .inr ⟨w', by omega, x2⟩
          · exact .inr ⟨w, by omega, ⟨c1, hl⟩, by omega⟩
      rw [e1, e2]
      generalize lsI (fun v => tq1 A heap T half v ∨ ∃ w', w' < w ∧ gdw A (barS A) heap half w' ∧ (v : Int) = tc1 A heap half w' T) 5000 = X at *
      generalize lsI (fun v => tq2 A heap T half v ∨ ∃ w', w' < w ∧ gdw A (barS A) heap half w' ∧ (v : Int) = tc2 A heap half w' T) 5000 = Y at *
      obtain ⟨N', k1, k2⟩ := tim_186 (half := half) (rest := ndn heap half) (w := w) (s1 := tc1 A heap half w T) (t0 := imx (T half).2 (T (ndn heap half)).2) (t1 := mnt A heap half w) (by omega : heap < 512) (by omega) (by omega) (by omega) ⟨by rw [← hb2]; exact hb.2.1, by rw [← hb2]; omega⟩ hN3
      refine ⟨N', ?_, k2⟩
      rw [nS, ← k1]
      have f1 : xI N3 (180, 0) half = iZ (T half).1 := by rw [(hN3.1 (180, 0) half (fun z => by rcases z with z | z; revert z; decide; omega)).1]; exact (h0 half ho1 hk).1
      have f2 : xI N3 (180, 0) (ndn heap half) = iZ (T (ndn heap half)).1 := by rw [(hN3.1 (180, 0) (ndn heap half) (fun z => by rcases z with z | z; revert z; decide; omega)).1]; exact (h0 _ (by omega) (by omega)).1
      have f3 : xI N3 (181, 0) half = iZ (T half).2 := by rw [(hN3.1 (181, 0) half (fun z => by rcases z with z | z; revert z; decide; omega)).1]; exact (h0 half ho1 hk).2
      have f4 : xI N3 (181, 0) (ndn heap half) = iZ (T (ndn heap half)).2 := by rw [(hN3.1 (181, 0) (ndn heap half) (fun z => by rcases z with z | z; revert z; decide; omega)).1]; exact (h0 _ (by omega) (by omega)).2
      have q1 := hT half ho1 hk
      have q2 := hT (ndn heap half) (by omega) (by omega)
      obtain ⟨⟨_, _⟩, ⟨_, _⟩, _⟩ := q1
      obtain ⟨⟨_, _⟩, ⟨_, _⟩, _⟩ := q2
      unfold tc1 imx
      rw [xfix_unf, sX12_times_102]
      simp (disch := omega) only [xk_none, xk_inl, xk_inr, xk_ite, xri_v, xrl_v, xrv_v, xb_z0, xb_z1, xb_b2, if_true, if_false, ite_true, ite_false, iZ_lit, iZ_m1, iZ_m99, iZ_m8, iZ_add, iZ_sub, iZ_mul, iZ_neg, nz0, nzi, iZ_lt, iZ_le, iZ_inj, b2_z, b2_o, ite_bPz, ite_bPo, xb_bP, iZ_xin, if_pos, ite_self, ↓reduceIte, Int.reduceAdd, Int.reduceSub, Int.reduceMul, Int.reduceNeg, Int.reduceLT, Int.reduceLE, if_neg, nS, iZ_clampN, iZ_bit, iZ_one, iZ_and, iZ_or, iZ_ndn, m_leaves hNA.P hNB (by omega : heap < 512) (by omega : half < 512) hw, c1, m1, f1, f2, f3, f4]
      by_cases d : (T half).2 ≤ (T (ndn heap half)).2
      · rw [if_pos d, if_neg (by omega)]
      · rw [if_neg d, if_pos (by omega)]
    · refine ⟨N, ?_, ?_⟩
      · rw [xfix_unf, sX12_times_102]
        simp (disch := omega) only [xk_none, xk_inl, xk_inr, xk_ite, xri_v, xrl_v, xrv_v, xb_z0, xb_z1, xb_b2, if_true, if_false, ite_true, ite_false, iZ_lit, iZ_m1, iZ_m99, iZ_m8, iZ_add, iZ_sub, iZ_mul, iZ_neg, nz0, nzi, iZ_lt, iZ_le, iZ_inj, b2_z, b2_o, ite_bPz, ite_bPo, xb_bP, iZ_xin, if_pos, ite_self, ↓reduceIte, Int.reduceAdd, Int.reduceSub, Int.reduceMul, Int.reduceNeg, Int.reduceLT, Int.reduceLE, if_neg, nS, iZ_clampN, iZ_bit, iZ_one, iZ_and, iZ_or, iZ_ndn, m_leaves hNA.P hNB (by omega : heap < 512) (by omega : half < 512) hw, c1]
      · have key : ∀ (q : Nat → Prop) (f : Nat → Int) (v : Nat), (q v ∨ ∃ w', w' < w + 1 ∧ gdw A (barS A) heap half w' ∧ (v : Int) = f w') ↔ (q v ∨ ∃ w', w' < w ∧ gdw A (barS A) heap half w' ∧ (v : Int) = f w') := fun q f v => or_congr Iff.rfl ⟨fun ⟨w', x1, x2, x3⟩ => ⟨w', by
          by_cases e : w' = w
          · subst e; exact absurd x2.1 c1
          · omega, x2, x3⟩, fun ⟨w', x1, x2⟩ => ⟨w', by omega, x2⟩⟩
        rw [lsI_cg (n := 5000) (fun v _ => key (tq1 A heap T half) (fun w' => tc1 A heap half w' T) v), lsI_cg (n := 5000) (fun v _ => key (tq2 A heap T half) (fun w' => tc2 A heap half w' T) v)]
        exact hN) (a := 0) (M := N) (by omega) (by
          rw [lsI_cg (n := 5000) (p := fun v => tq1 A heap T half v ∨ ∃ w', w' < 0 ∧ gdw A (barS A) heap half w' ∧ (v : Int) = tc1 A heap half w' T) (q := tq1 A heap T half) (fun v _ => ⟨fun z => z.elim id fun ⟨w', x, _⟩ => by omega, .inl⟩), lsI_cg (n := 5000) (p := fun v => tq2 A heap T half v ∨ ∃ w', w' < 0 ∧ gdw A (barS A) heap half w' ∧ (v : Int) = tc2 A heap half w' T) (q := tq2 A heap T half) (fun v _ => ⟨fun z => z.elim id fun ⟨w', x, _⟩ => by omega, .inl⟩)]
          unfold timP at hI
          rw [if_neg hn] at hI
          dsimp only at hI
          exact hI)
  refine ⟨N2, g1.trans ?_, ?_⟩
  · rw [xfix_unf, sX12_times_102]
    simp (disch := omega) only [xk_none, xk_inl, xk_inr, xk_ite, xri_v, xrl_v, xrv_v, xb_z0, xb_z1, xb_b2, if_true, if_false, ite_true, ite_false, iZ_lit, iZ_m1, iZ_m99, iZ_m8, iZ_add, iZ_sub, iZ_mul, iZ_neg, nz0, nzi, iZ_lt, iZ_le, iZ_inj, b2_z, b2_o, ite_bPz, ite_bPo, xb_bP, iZ_xin, if_pos, ite_self, ↓reduceIte, Int.reduceAdd, Int.reduceSub, Int.reduceMul, Int.reduceNeg, Int.reduceLT, Int.reduceLE, if_neg]
  · unfold timP
    rw [if_neg hn]
    dsimp only
    rw [lsI_cg (n := 5000) (p := tq1 A heap T (half + 1)) (q := fun v => tq1 A heap T half v ∨ ∃ w', w' < 6 ∧ gdw A (barS A) heap half w' ∧ (v : Int) = tc1 A heap half w' T) (fun v _ => ⟨fun ⟨x, x1, x2, x3⟩ => by
      by_cases e : x = half
      · subst e; exact .inr x3
      · exact .inl ⟨x, by omega, x2, x3⟩, fun z => z.elim (fun ⟨x, x1, x2⟩ => ⟨x, by omega, x2⟩) (fun z => ⟨half, by omega, ho, z⟩)⟩), lsI_cg (n := 5000) (p := tq2 A heap T (half + 1)) (q := fun v => tq2 A heap T half v ∨ ∃ w', w' < 6 ∧ gdw A (barS A) heap half w' ∧ (v : Int) = tc2 A heap half w' T) (fun v _ => ⟨fun ⟨x, x1, x2, x3⟩ => by
      by_cases e : x = half
      · subst e; exact .inr x3
      · exact .inl ⟨x, by omega, x2, x3⟩, fun z => z.elim (fun ⟨x, x1, x2⟩ => ⟨x, by omega, x2⟩) (fun z => ⟨half, by omega, ho, z⟩)⟩)]
    exact g2
theorem m_times {A : dA} {M : xM} {heap : Nat} {T : Nat → Int × Int} (hA : mA M A) (hB : mB M (barS A)) (hL : mLs M A) (h1 : 1 ≤ heap) (hh : heap < 2 ^ aP A) (hT : ∀ k, 1 ≤ k → k < heap → tB (T k) k) (h0 : ∀ k, 1 ≤ k → k < heap → xI M (180, 0) k = iZ (T k).1 ∧ xI M (181, 0) k = iZ (T k).2) : ∃ M', fX12_times [.inr (.inr (12, 0)), .inl (iZ (heap))] M = some (none, M') ∧ tI M heap (timP A heap T heap).1 (timP A heap T heap).2 M' := by
  have hP := pow9 hA.ok.P
  have hb := bc_le heap
  have hnoS : ∀ k, ¬ (tOk A heap k T ∧ k < heap) → timP A heap T (k + 1) = timP A heap T k ∨ heap ≤ k := fun k hk => by
    by_cases e : heap ≤ k
    · exact .inr e
    · refine .inl ?_
      unfold timP
      have : ∀ v, tq1 A heap T (k + 1) v ↔ tq1 A heap T k v := fun v => ⟨fun ⟨x, x1, x2, x3⟩ => ⟨x, by
        by_cases e : x = k
        · subst e; exact absurd ⟨x2, by omega⟩ hk
        · omega, x2, x3⟩, fun ⟨x, x1, x2⟩ => ⟨x, by omega, x2⟩⟩
      have h2 : ∀ v, tq2 A heap T (k + 1) v ↔ tq2 A heap T k v := fun v => ⟨fun ⟨x, x1, x2, x3⟩ => ⟨x, by
        by_cases e : x = k
        · subst e; exact absurd ⟨x2, by omega⟩ hk
        · omega, x2, x3⟩, fun ⟨x, x1, x2⟩ => ⟨x, by omega, x2⟩⟩
      rw [lsI_cg (n := 5000) (fun v _ => this v), lsI_cg (n := 5000) (fun v _ => h2 v)]
  obtain ⟨M1, a1, a2⟩ : ∃ M1, fX12_times [.inr (.inr (12, 0)), .inl (iZ (heap))] M = xfix gX12_times (46, [some (.inr (.inr (12, 0))), some (.inl (iZ (heap))), none, some (.inl (iZ ((1 : Nat)))), none, none, none, none, none], [], M1) ∧ tI M heap (timP A heap T 1).1 (timP A heap T 1).2 M1 := by
    have e0 : timP A heap T 1 = if bc heap = 1 then (0, 0) else (-1, -1) := by
      unfold timP
      rw [lsI_cg (n := 5000) (p := tq1 A heap T 1) (q := fun _ => False) (fun v _ => ⟨fun ⟨x, x1, x2, _⟩ => by have := x2.1; omega, False.elim⟩), lsI_cg (n := 5000) (p := tq2 A heap T 1) (q := fun _ => False) (fun v _ => ⟨fun ⟨x, x1, x2, _⟩ => by have := x2.1; omega, False.elim⟩), lsI_F]
    rw [e0]
    by_cases ho : bc heap = 1
    · rw [if_pos ho]
      refine ⟨xpI (xpI M (180, 0) heap (iZ 0)) (181, 0) heap (iZ 0), ?_, (xSm.rf.pI (.inr ⟨rfl, .inl rfl⟩)).pI (.inr ⟨rfl, .inr rfl⟩), by rw [xI_pI_ne (by decide), xI_pI, if_pos ⟨rfl, rfl⟩], by rw [xI_pI, if_pos ⟨rfl, rfl⟩]⟩
      show xfix gX12_times (0, [some (.inr (.inr (12, 0))), some (.inl (iZ (heap))), none, none, none, none, none, none, none], [], M) = _; rw [xfix_unf, sX12_times_0]
      simp (disch := omega) only [xk_none, xk_inl, xk_inr, xk_ite, xri_v, xrl_v, xrv_v, xb_z0, xb_z1, xb_b2, if_true, if_false, ite_true, ite_false, iZ_lit, iZ_m1, iZ_m99, iZ_m8, iZ_add, iZ_sub, iZ_mul, iZ_neg, nz0, nzi, iZ_lt, iZ_le, iZ_inj, b2_z, b2_o, ite_bPz, ite_bPo, xb_bP, iZ_xin, if_pos, ite_self, ↓reduceIte, Int.reduceAdd, Int.reduceSub, Int.reduceMul, Int.reduceNeg, Int.reduceLT, Int.reduceLE, if_neg, nS, iZ_clampN, iZ_bit, iZ_one, iZ_and, iZ_or, iZ_ndn, m_bits M (v := heap) (by omega)]
      rw [xfix_unf, sX12_times_13]
      simp (disch := omega) only [xk_none, xk_inl, xk_inr, xk_ite, xri_v, xrl_v, xrv_v, xb_z0, xb_z1, xb_b2, if_true, if_false, ite_true, ite_false, iZ_lit, iZ_m1, iZ_m99, iZ_m8, iZ_add, iZ_sub, iZ_mul, iZ_neg, nz0, nzi, iZ_lt, iZ_le, iZ_inj, b2_z, b2_o, ite_bPz, ite_bPo, xb_bP, iZ_xin, if_pos, ite_self, ↓reduceIte, Int.reduceAdd, Int.reduceSub, Int.reduceMul, Int.reduceNeg, Int.reduceLT, Int.reduceLE, if_neg, nS, iZ_clampN, iZ_bit, iZ_one, iZ_and, iZ_or, iZ_ndn]
      rw [xfix_unf, sX12_times_28]
      simp (disch := omega) only [xk_none, xk_inl, xk_inr, xk_ite, xri_v, xrl_v, xrv_v, xb_z0, xb_z1, xb_b2, if_true, if_false, ite_true, ite_false, iZ_lit, iZ_m1, iZ_m99, iZ_m8, iZ_add, iZ_sub, iZ_mul, iZ_neg, nz0, nzi, iZ_lt, iZ_le, iZ_inj, b2_z, b2_o, ite_bPz, ite_bPo, xb_bP, iZ_xin, if_pos, ite_self, ↓reduceIte, Int.reduceAdd, Int.reduceSub, Int.reduceMul, Int.reduceNeg, Int.reduceLT, Int.reduceLE, if_neg, nS, iZ_clampN, iZ_bit, iZ_one, iZ_and, iZ_or, iZ_ndn]
      rfl
    · rw [if_neg ho]
      refine ⟨xpI (xpI M (180, 0) heap (iZ (-1))) (181, 0) heap (iZ (-1)), ?_, (xSm.rf.pI (.inr ⟨rfl, .inl rfl⟩)).pI (.inr ⟨rfl, .inr rfl⟩), by rw [xI_pI_ne (by decide), xI_pI, if_pos ⟨rfl, rfl⟩], by rw [xI_pI, if_pos ⟨rfl, rfl⟩]⟩
      show xfix gX12_times (0, [some (.inr (.inr (12, 0))), some (.inl (iZ (heap))), none, none, none, none, none, none, none], [], M) = _; rw [xfix_unf, sX12_times_0]
      simp (disch := omega) only [xk_none, xk_inl, xk_inr, xk_ite, xri_v, xrl_v, xrv_v, xb_z0, xb_z1, xb_b2, if_true, if_false, ite_true, ite_false, iZ_lit, iZ_m1, iZ_m99, iZ_m8, iZ_add, iZ_sub, iZ_mul, iZ_neg, nz0, nzi, iZ_lt, iZ_le, iZ_inj, b2_z, b2_o, ite_bPz, ite_bPo, xb_bP, iZ_xin, if_pos, ite_self, ↓reduceIte, Int.reduceAdd, Int.reduceSub, Int.reduceMul, Int.reduceNeg, Int.reduceLT, Int.reduceLE, if_neg, nS, iZ_clampN, iZ_bit, iZ_one, iZ_and, iZ_or, iZ_ndn, m_bits M (v := heap) (by omega)]
      rw [xfix_unf, sX12_times_13]
      simp (disch := omega) only [xk_none, xk_inl, xk_inr, xk_ite, xri_v, xrl_v, xrv_v, xb_z0, xb_z1, xb_b2, if_true, if_false, ite_true, ite_false, iZ_lit, iZ_m1, iZ_m99, iZ_m8, iZ_add, iZ_sub, iZ_mul, iZ_neg, nz0, nzi, iZ_lt, iZ_le, iZ_inj, b2_z, b2_o, ite_bPz, ite_bPo, xb_bP, iZ_xin, if_pos, ite_self, ↓reduceIte, Int.reduceAdd, Int.reduceSub, Int.reduceMul, Int.reduceNeg, Int.reduceLT, Int.reduceLE, if_neg, nS, iZ_clampN, iZ_bit, iZ_one, iZ_and, iZ_or, iZ_ndn]
      rw [xfix_unf, sX12_times_28]
      simp (disch := omega) only [xk_none, xk_inl, xk_inr, xk_ite, xri_v, xrl_v, xrv_v, xb_z0, xb_z1, xb_b2, if_true, if_false, ite_true, ite_false, iZ_lit, iZ_m1, iZ_m99, iZ_m8, iZ_add, iZ_sub, iZ_mul, iZ_neg, nz0, nzi, iZ_lt, iZ_le, iZ_inj, b2_z, b2_o, ite_bPz, ite_bPo, xb_bP, iZ_xin, if_pos, ite_self, ↓reduceIte, Int.reduceAdd, Int.reduceSub, Int.reduceMul, Int.reduceNeg, Int.reduceLT, Int.reduceLE, if_neg, nS, iZ_clampN, iZ_bit, iZ_one, iZ_and, iZ_or, iZ_ndn]
      rfl
  obtain ⟨M2, b1, b2⟩ := xfor_M (sg := gX12_times) (st := fun k M => (46, [some (.inr (.inr (12, 0))), some (.inl (iZ (heap))), none, some (.inl (iZ (k))), none, none, none, none, none], [], M)) (I := fun k N => 1 ≤ k ∧ tI M heap (timP A heap T k).1 (timP A heap T k).2 N) (n := heap) (fun k N hk hN => by
    obtain ⟨hk1, hN⟩ := hN
    have hle := ndn_le k heap
    by_cases c0 : ndn k heap = 0
    · have hs := ndn_and.mp c0
      have hrest := ndn_add heap k hs
      have hno : ¬ bc heap = 1 := fun z => bc_1 (by omega) z hs (by omega) hk
      have f1 : xI N (180, 0) k = iZ (T k).1 := by rw [(hN.1 (180, 0) k (fun z => by rcases z with z | z; revert z; decide; omega)).1]; exact (h0 k hk1 hk).1
      have f2 : xI N (180, 0) (ndn heap k) = iZ (T (ndn heap k)).1 := by rw [(hN.1 (180, 0) (ndn heap k) (fun z => by rcases z with z | z; revert z; decide; omega)).1]; exact (h0 _ (by omega) (by omega)).1
      have q1 := hT k hk1 hk
      have q2 := hT (ndn heap k) (by omega) (by omega)
      obtain ⟨⟨_, _⟩, ⟨_, _⟩, _⟩ := q1
      obtain ⟨⟨_, _⟩, ⟨_, _⟩, _⟩ := q2
      have hNA := hA.fr hN.S (by decide)
      by_cases c1 : (T k).1 ≠ -1 ∧ (T (ndn heap k)).1 ≠ -1
      · by_cases c2 : loose A heap k
        · obtain ⟨N', g1, g2⟩ := tim_ways hA hB hL hh hk ⟨hk1, hs, c1.1, c1.2⟩ c2 hT h0 hno hN
          refine ⟨N', ?_, by omega, g2⟩
          rw [nS, ← g1]
          rw [xfix_unf, sX12_times_46]
          simp (disch := omega) only [xk_none, xk_inl, xk_inr, xk_ite, xri_v, xrl_v, xrv_v, xb_z0, xb_z1, xb_b2, if_true, if_false, ite_true, ite_false, iZ_lit, iZ_m1, iZ_m99, iZ_m8, iZ_add, iZ_sub, iZ_mul, iZ_neg, nz0, nzi, iZ_lt, iZ_le, iZ_inj, b2_z, b2_o, ite_bPz, ite_bPo, xb_bP, iZ_xin, if_pos, ite_self, ↓reduceIte, Int.reduceAdd, Int.reduceSub, Int.reduceMul, Int.reduceNeg, Int.reduceLT, Int.reduceLE, if_neg, nS, iZ_clampN, iZ_bit, iZ_one, iZ_and, iZ_or, iZ_ndn, c0, f1, f2, m_isLoose hNA (by omega : heap < 512) (by omega : k < 512), c2]
          rfl
        · refine ⟨N, ?_, by omega, ?_⟩
          · rw [xfix_unf, sX12_times_46]
            simp (disch := omega) only [xk_none, xk_inl, xk_inr, xk_ite, xri_v, xrl_v, xrv_v, xb_z0, xb_z1, xb_b2, if_true, if_false, ite_true, ite_false, iZ_lit, iZ_m1, iZ_m99, iZ_m8, iZ_add, iZ_sub, iZ_mul, iZ_neg, nz0, nzi, iZ_lt, iZ_le, iZ_inj, b2_z, b2_o, ite_bPz, ite_bPo, xb_bP, iZ_xin, if_pos, ite_self, ↓reduceIte, Int.reduceAdd, Int.reduceSub, Int.reduceMul, Int.reduceNeg, Int.reduceLT, Int.reduceLE, if_neg, nS, iZ_clampN, iZ_bit, iZ_one, iZ_and, iZ_or, iZ_ndn, c0, f1, f2, m_isLoose hNA (by omega : heap < 512) (by omega : k < 512), c2]
          · have e : timP A heap T (k + 1) = timP A heap T k := by
              unfold timP
              rw [lsI_cg (n := 5000) (p := tq1 A heap T (k + 1)) (q := tq1 A heap T k) (fun v _ => ⟨fun ⟨x, x1, x2, w, w1, w2, w3⟩ => ⟨x, by
                by_cases e : x = k
                · subst e; exact absurd w2.2 c2
                · omega, x2, w, w1, w2, w3⟩, fun ⟨x, x1, x2⟩ => ⟨x, by omega, x2⟩⟩), lsI_cg (n := 5000) (p := tq2 A heap T (k + 1)) (q := tq2 A heap T k) (fun v _ => ⟨fun ⟨x, x1, x2, w, w1, w2, w3⟩ => ⟨x, by
                by_cases e : x = k
                · subst e; exact absurd w2.2 c2
                · omega, x2, w, w1, w2, w3⟩, fun ⟨x, x1, x2⟩ => ⟨x, by omega, x2⟩⟩)]
            rw [e]; exact hN
      · rcases hnoS k (fun z => c1 ⟨z.1.2.2.1, z.1.2.2.2⟩) with e | e
        · refine ⟨N, ?_, by omega, by rw [e]; exact hN⟩
          rw [xfix_unf, sX12_times_46]
          simp (disch := omega) only [xk_none, xk_inl, xk_inr, xk_ite, xri_v, xrl_v, xrv_v, xb_z0, xb_z1, xb_b2, if_true, if_false, ite_true, ite_false, iZ_lit, iZ_m1, iZ_m99, iZ_m8, iZ_add, iZ_sub, iZ_mul, iZ_neg, nz0, nzi, iZ_lt, iZ_le, iZ_inj, b2_z, b2_o, ite_bPz, ite_bPo, xb_bP, iZ_xin, if_pos, ite_self, ↓reduceIte, Int.reduceAdd, Int.reduceSub, Int.reduceMul, Int.reduceNeg, Int.reduceLT, Int.reduceLE, if_neg, nS, iZ_clampN, iZ_bit, iZ_one, iZ_and, iZ_or, iZ_ndn, c0, f1, f2]
        · omega
    · rcases hnoS k (fun z => c0 (ndn_and.mpr z.1.2.1)) with e | e
      · refine ⟨N, ?_, by omega, by rw [e]; exact hN⟩
        rw [xfix_unf, sX12_times_46]
        simp (disch := omega) only [xk_none, xk_inl, xk_inr, xk_ite, xri_v, xrl_v, xrv_v, xb_z0, xb_z1, xb_b2, if_true, if_false, ite_true, ite_false, iZ_lit, iZ_m1, iZ_m99, iZ_m8, iZ_add, iZ_sub, iZ_mul, iZ_neg, nz0, nzi, iZ_lt, iZ_le, iZ_inj, b2_z, b2_o, ite_bPz, ite_bPo, xb_bP, iZ_xin, if_pos, ite_self, ↓reduceIte, Int.reduceAdd, Int.reduceSub, Int.reduceMul, Int.reduceNeg, Int.reduceLT, Int.reduceLE, if_neg, nS, iZ_clampN, iZ_bit, iZ_one, iZ_and, iZ_or, iZ_ndn, c0]
      · omega) (a := 1) (M := M1) h1 ⟨by omega, a2⟩
  refine ⟨M2, a1.trans (b1.trans ?_), b2.2⟩
  rw [xfix_unf, sX12_times_46]
  simp (disch := omega) only [xk_none, xk_inl, xk_inr, xk_ite, xri_v, xrl_v, xrv_v, xb_z0, xb_z1, xb_b2, if_true, if_false, ite_true, ite_false, iZ_lit, iZ_m1, iZ_m99, iZ_m8, iZ_add, iZ_sub, iZ_mul, iZ_neg, nz0, nzi, iZ_lt, iZ_le, iZ_inj, b2_z, b2_o, ite_bPz, ite_bPo, xb_bP, iZ_xin, if_pos, ite_self, ↓reduceIte, Int.reduceAdd, Int.reduceSub, Int.reduceMul, Int.reduceNeg, Int.reduceLT, Int.reduceLE, if_neg, nS, iZ_clampN, iZ_bit, iZ_one, iZ_and, iZ_or, iZ_ndn]
