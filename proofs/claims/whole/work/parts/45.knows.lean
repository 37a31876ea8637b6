/-! the reference: all that it knows of a thing -/
/-- what is reached from a start when heaps above a bound are parted -/
def clo (s : Nat → Prop) (V : Nat → Nat → Prop) (i k : Nat) : Prop := ∀ S : Nat → Prop, (∀ k, s k → S k) → (∀ heap half, i < heap → S heap → V heap half → S half ∧ S (ndn heap half)) → S k
theorem clo.st {s : Nat → Prop} {V : Nat → Nat → Prop} {i k : Nat} (h : s k) : clo s V i k := fun _ h1 _ => h1 k h
theorem clo.nx {s : Nat → Prop} {V : Nat → Nat → Prop} {i heap half : Nat} (hi : i < heap) (h : clo s V i heap) (hv : V heap half) : clo s V i half ∧ clo s V i (ndn heap half) := ⟨fun S h1 h2 => (h2 heap half hi (h S h1 h2) hv).1, fun S h1 h2 => (h2 heap half hi (h S h1 h2) hv).2⟩
theorem clo_top {s : Nat → Prop} {V : Nat → Nat → Prop} {i k : Nat} (hs : ∀ k, s k → k ≤ i) (hV : ∀ heap half, V heap half → half < heap ∧ ndn heap half < heap) : clo s V i k ↔ s k := by
  constructor
  · intro h
    exact h s (fun _ z => z) (fun heap half h1 h2 _ => by have := hs heap h2; omega)
  · exact clo.st
theorem clo_step {s : Nat → Prop} {V : Nat → Nat → Prop} {i k : Nat} (hV : ∀ heap half, V heap half → half < heap ∧ ndn heap half < heap) : clo s V i k ↔ clo s V (i + 1) k ∨ (clo s V (i + 1) (i + 1) ∧ ∃ half, V (i + 1) half ∧ (k = half ∨ k = ndn (i + 1) half)) := by
  constructor
  · intro h
    refine h (fun k => clo s V (i + 1) k ∨ (clo s V (i + 1) (i + 1) ∧ ∃ half, V (i + 1) half ∧ (k = half ∨ k = ndn (i + 1) half))) (fun k hk => .inl (clo.st hk)) (fun heap half h1 h2 h3 => ?_)
    by_cases e : heap = i + 1
    · subst e
      have h4 : clo s V (i + 1) (i + 1) := h2.elim id fun z => z.1
      exact ⟨.inr ⟨h4, half, h3, .inl rfl⟩, .inr ⟨h4, half, h3, .inr rfl⟩⟩
    · rcases h2 with h2 | ⟨_, half', h5, h6⟩
      · have := clo.nx (by omega) h2 h3
        exact ⟨.inl this.1, .inl this.2⟩
      · have := hV _ _ h5
        omega
  · rintro (h | ⟨h, half, h2, h3⟩)
    · exact fun S h1 h2 => h S h1 (fun heap half h3 h4 h5 => h2 heap half (by omega) h4 h5)
    · have h4 : clo s V i (i + 1) := fun S h1 h2 => h S h1 (fun heap half h3 h4 h5 => h2 heap half (by omega) h4 h5)
      have := clo.nx (by omega) h4 h2
      rcases h3 with h3 | h3
      · rw [h3]; exact this.1
      · rw [h3]; exact this.2
noncomputable def ordA (A : dA) (k : Nat) : Int := ordT on1 ok1 (prt A (barS A)) (k + 1) k
noncomputable def leaA (A : dA) (k : Nat) : Int × Nat × Nat := leaT on1 ok1 (gdw A (barS A)) (cstA A) (k + 1) k
noncomputable def rndA (A : dA) (k : Nat) : Int := rndT (prt A (barS A)) (k + 1) k
def ptV (A : dA) (heap half : Nat) : Prop := 1 ≤ half ∧ half < heap ∧ half &&& heap = half ∧ half < ndn heap half ∧ prt A (barS A) heap half
def lvV (A : dA) (heap half : Nat) : Prop := ptV A heap half ∧ 0 < ordA A half ∧ 0 < ordA A (ndn heap half)
def nsS (A : dA) (k : Nat) : Prop := aP A ≠ 0 ∧ k = 2 ^ aP A - 1
def lsS (A : dA) (k : Nat) : Prop := nsS A k ∧ 0 < ordA A k
def netA (A : dA) (k : Nat) : Prop := clo (nsS A) (ptV A) 0 k
def livA (A : dA) (k : Nat) : Prop := clo (lsS A) (lvV A) 0 k
theorem ptV_lt {A : dA} {heap half : Nat} (h : ptV A heap half) : half < heap ∧ ndn heap half < heap := by
  have := ndn_add heap half h.2.2.1
  have := h.1
  have := h.2.1
  omega
/-- all that is known is that of the thing -/
def mKn (M : xM) (A : dA) : Prop := mB M (barS A) ∧ mSB M (sbrS A) ∧ (∀ k, 1 ≤ k → k < 2 ^ aP A → xL M (134, 0) k = lZ (ordA A k) ∧ xI M (135, 0) k = iZ (leaA A k).1 ∧ (¬ on1 k → (leaA A k).1 ≠ -1 → xI M (136, 0) k = iZ (leaA A k).2.1 ∧ xI M (137, 0) k = iZ (leaA A k).2.2) ∧ xI M (138, 0) k = iZ (rndA A k)) ∧ ∀ k, k < 512 → xI M (140, 0) k = bP (netA A k) ∧ xI M (141, 0) k = bP (livA A k)
abbrev kR (r : xR) (j : Nat) : Prop := (r = (12, 0) ∧ (j = 31 ∨ j = 82)) ∨ r = (132, 0) ∨ cR r ∨ r = (140, 0) ∨ r = (141, 0) ∨ r = (160, 0) ∨ r = (161, 0)
theorem mA.sm {M M' : xM} {A : dA} {P : xR → Nat → Prop} (h : mA M A) (hs : xSm P M M') (h2 : ¬ P (12, 0) 2) (h3 : ¬ P (12, 0) 3) (hp : ∀ r, r ∈ ([(100, 0), (104, 0), (105, 0), (106, 0), (107, 0), (108, 0), (109, 0), (159, 0)] : List xR) → ∀ j, ¬ P r j) : mA M' A := by
  obtain ⟨a, b, c, d, e, f, g, i⟩ := h
  refine ⟨a, ?_, ?_, ?_, ?_, ?_, ?_, ?_⟩
  · rw [(hs _ _ h2).1]; exact b
  · rw [(hs _ _ h3).1]; exact c
  · intro k hk; rw [(hs _ _ (hp (100, 0) (by decide) k)).1]; exact d k hk
  · intro k hk; rw [(hs _ _ (hp (104, 0) (by decide) k)).1, (hs _ _ (hp (105, 0) (by decide) k)).1, (hs _ _ (hp (106, 0) (by decide) k)).1, (hs _ _ (hp (107, 0) (by decide) k)).1]; exact e k hk
  · intro k hk; rw [(hs _ _ (hp (108, 0) (by decide) k)).1]; exact f k hk
  · intro k hk; rw [(hs _ _ (hp (109, 0) (by decide) k)).1]; exact g k hk
  · intro k hk; rw [(hs _ _ (hp (159, 0) (by decide) k)).1]; exact i k hk
theorem mA.kr {M M' : xM} {A : dA} (h : mA M A) (hs : xSm kR M M') : mA M' A := h.sm hs (by decide) (by decide) (fun r hr j => by
  simp only [List.mem_cons, List.mem_nil_iff, or_false] at hr
  rcases hr with e | e | e | e | e | e | e | e <;> subst e <;> simp [kR])
theorem mH.sm {M M' : xM} {A : dA} {P : xR → Nat → Prop} (h : mH M A) (hs : xSm P M M') (hp : ∀ j, ¬ P (139, 0) j) : mH M' A := fun k h1 h2 => by rw [(hs _ _ (hp k)).1]; exact h k h1 h2
theorem ordA_st {A : dA} {k n : Nat} (h : k < n) : ordT on1 ok1 (prt A (barS A)) n k = ordA A k := tab_st _ _ h (by omega)
theorem leaA_st {A : dA} {k n : Nat} (h : k < n) : leaT on1 ok1 (gdw A (barS A)) (cstA A) n k = leaA A k := tab_st _ _ h (by omega)
theorem rndA_st {A : dA} {k n : Nat} (h : k < n) : rndT (prt A (barS A)) n k = rndA A k := tab_st _ _ h (by omega)
theorem ordA_eq (A : dA) (k : Nat) : ordA A k = ordP on1 ok1 (prt A (barS A)) k (ordT on1 ok1 (prt A (barS A)) k) k := tab_at _ _ (by omega)
theorem leaA_eq (A : dA) (k : Nat) : leaA A k = leaP on1 ok1 (gdw A (barS A)) (cstA A) k (leaT on1 ok1 (gdw A (barS A)) (cstA A) k) k := tab_at _ _ (by omega)
theorem rndA_eq (A : dA) (k : Nat) : rndA A k = rndP (prt A (barS A)) k (rndT (prt A (barS A)) k) k := tab_at _ _ (by omega)
theorem ordA_b (A : dA) {k : Nat} (h1 : 1 ≤ k) (h2 : k < 512) : 0 ≤ ordA A k ∧ ordA A k < 9223372036854775808 := by
  have := ordT_b (one := on1) (ok := ok1) (pt := prt A (barS A)) (k + 1) k h1 (by omega) h2
  have := ob_lt (bc_le k)
  unfold ordA
  omega
theorem leaA_b {A : dA} (h : aOk A) {k : Nat} (h1 : 1 ≤ k) : -1 ≤ (leaA A k).1 ∧ (leaA A k).1 ≤ 1089 * (k - 1) := leaT_b (fun heap w hw => cstA_b h heap hw) (k + 1) k h1 (by omega)
theorem rndA_b {A : dA} {k : Nat} (h1 : 1 ≤ k) : -1 ≤ rndA A k ∧ rndA A k ≤ k := rndT_b (k + 1) k h1 (by omega)
/-- the counted rows below a heap -/
def cK (M : xM) (A : dA) (n : Nat) : Prop := ∀ k, 1 ≤ k → k < n → xL M (134, 0) k = lZ (ordA A k) ∧ xI M (135, 0) k = iZ (leaA A k).1 ∧ (¬ on1 k → (leaA A k).1 ≠ -1 → xI M (136, 0) k = iZ (leaA A k).2.1 ∧ xI M (137, 0) k = iZ (leaA A k).2.2) ∧ xI M (138, 0) k = iZ (rndA A k)
theorem cK.sm {M M' : xM} {A : dA} {n : Nat} {P : xR → Nat → Prop} (h : cK M A n) (hs : xSm P M M') (hp : ∀ r, cR r → ∀ j, ¬ P r j) : cK M' A n := fun k h1 h2 => by
  obtain ⟨a, b, c, d⟩ := h k h1 h2
  refine ⟨?_, ?_, fun x y => ⟨?_, ?_⟩, ?_⟩
  · rw [(hs _ _ (hp (134, 0) (by decide) k)).2]; exact a
  · rw [(hs _ _ (hp (135, 0) (by decide) k)).1]; exact b
  · rw [(hs _ _ (hp (136, 0) (by decide) k)).1]; exact (c x y).1
  · rw [(hs _ _ (hp (137, 0) (by decide) k)).1]; exact (c x y).2
  · rw [(hs _ _ (hp (138, 0) (by decide) k)).1]; exact d
theorem knows_57 {A : dA} {M : xM} (hA : mA M A) (hB : mB M (barS A)) (hH : mH M A) : ∃ M', xfix gX12_knows (57, [some (.inr (.inr (12, 0))), some (.inl (iZ ((1 : Nat)))), none, none, none], [], M) = xfix gX12_knows (57, [some (.inr (.inr (12, 0))), some (.inl (iZ (((2 ^ aP A : Nat))))), none, none, none], [], M') ∧ xSame cR M M' ∧ cK M' A (2 ^ aP A) := by
  have hP := pow9 hA.ok.P
  obtain ⟨M2, b1, b2⟩ := xfor_M (sg := gX12_knows) (st := fun k M => (57, [some (.inr (.inr (12, 0))), some (.inl (iZ (k))), none, none, none], [], M)) (I := fun k N => 1 ≤ k ∧ xSame cR M N ∧ cK N A k) (n := 2 ^ aP A) (fun k N hk hN => by
    obtain ⟨hk1, hN1, hN2⟩ := hN
    have hNA := hA.cr hN1
    have hNH : mH N A := hH.sm hN1.sm (fun j => by decide)
    obtain ⟨N', g1, g2⟩ := m_counts hNA (hB.cr hN1) hNH hk1 hk (TO := ordT on1 ok1 (prt A (barS A)) k) (TR := rndT (prt A (barS A)) k) (TL := leaT on1 ok1 (gdw A (barS A)) (cstA A) k) (fun j j1 j2 => by rw [ordA_st j2]; exact (hN2 j j1 j2).1) (fun j j1 j2 => by rw [rndA_st j2]; exact (hN2 j j1 j2).2.2.2) (fun j j1 j2 => by rw [leaA_st j2]; exact (hN2 j j1 j2).2.1) (fun j j1 j2 => rndT_b k j j1 j2) (fun j j1 j2 => leaT_b (fun heap w hw => cstA_b hA.ok heap hw) k j j1 j2)
    rw [← ordA_eq, ← rndA_eq, ← leaA_eq] at g2
    refine ⟨N', ?_, by omega, hN1.tr g2.S, fun j j1 j2 => ?_⟩
    · rw [nS, xfix_unf, sX12_knows_57, m_whole N hNA.P]
      simp (disch := omega) only [xk_none, xk_inl, xk_inr, xk_ite, xri_v, xrl_v, xrv_v, xb_z0, xb_z1, xb_b2, if_true, if_false, ite_true, ite_false, iZ_lit, iZ_m1, iZ_m99, iZ_m8, iZ_add, iZ_sub, iZ_mul, iZ_neg, nz0, nzi, iZ_lt, iZ_le, iZ_inj, b2_z, b2_o, ite_bPz, ite_bPo, xb_bP, iZ_xin, if_pos, ite_self, ↓reduceIte, Int.reduceAdd, Int.reduceSub, Int.reduceMul, Int.reduceNeg, Int.reduceLT, Int.reduceLE, if_neg, nS, iZ_clampN, iZ_bit, iZ_one, iZ_and, iZ_or, iZ_ndn, g1]
    · by_cases e : j = k
      · subst e
        exact ⟨g2.2.1, g2.2.2.2.1, g2.2.2.2.2, g2.2.2.1⟩
      · have := hN2 j j1 (by omega)
        obtain ⟨a, b, c, d⟩ := this
        refine ⟨?_, ?_, fun x y => ⟨?_, ?_⟩, ?_⟩
        · rw [(g2.1 _ _ (fun z => e z.1)).2]; exact a
        · rw [(g2.1 _ _ (fun z => e z.1)).1]; exact b
        · rw [(g2.1 _ _ (fun z => e z.1)).1]; exact (c x y).1
        · rw [(g2.1 _ _ (fun z => e z.1)).1]; exact (c x y).2
        · rw [(g2.1 _ _ (fun z => e z.1)).1]; exact d) (a := 1) (M := M) (by omega) ⟨by omega, xSame.rf, fun k h1 h2 => by omega⟩
  exact ⟨M2, b1, b2.2⟩
