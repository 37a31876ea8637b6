/-! sets within sets, one after another -/
theorem ndn_z {k h : Nat} : ndn k h = 0 ↔ ∀ i, k.testBit i = true → h.testBit i = true := by
  constructor
  · intro e i hi
    have := ndn_bit k h i
    rw [e, hi, Nat.zero_testBit] at this
    cases x : h.testBit i with
    | true => rfl
    | false => rw [x] at this; cases this
  · intro e
    refine Nat.eq_of_testBit_eq fun i => ?_
    rw [ndn_bit, Nat.zero_testBit]
    cases x : k.testBit i with
    | false => rfl
    | true => rw [e i x]; rfl
theorem ndn_and {k h : Nat} : ndn k h = 0 ↔ k &&& h = k := by
  rw [ndn_z]
  constructor
  · intro e
    refine Nat.eq_of_testBit_eq fun i => ?_
    rw [Nat.testBit_and]
    cases x : k.testBit i with
    | false => rfl
    | true => rw [e i x]; rfl
  · intro e i hi
    rw [← e, Nat.testBit_and] at hi
    exact (Bool.and_eq_true_iff.mp hi).2
theorem and2 (a b : Nat) : (a &&& b) / 2 = (a / 2 &&& b / 2) ∧ ((a &&& b) % 2 = 1 ↔ a % 2 = 1 ∧ b % 2 = 1) := by
  constructor
  · refine Nat.eq_of_testBit_eq fun i => ?_
    rw [← Nat.testBit_succ, Nat.testBit_and, Nat.testBit_and, Nat.testBit_succ, Nat.testBit_succ]
  · have h := Nat.testBit_and a b 0
    rw [Nat.testBit_zero, Nat.testBit_zero, Nat.testBit_zero] at h
    constructor
    · intro e
      rw [e] at h
      have := Bool.and_eq_true_iff.mp h.symm
      exact ⟨of_decide_eq_true this.1, of_decide_eq_true this.2⟩
    · intro e
      rw [e.1, e.2] at h
      exact of_decide_eq_true h
/-- the next smaller subset -/
theorem sub_prev : ∀ (h heap k : Nat), k &&& heap = k → h &&& heap = h → k < h → k ≤ (h - 1) &&& heap := by
  intro h
  induction h using Nat.strongRecOn with
  | ind h ih =>
    intro heap k h1 h2 h3
    have a1 := and2 k heap
    have a2 := and2 h heap
    have a3 := and2 (h - 1) heap
    rw [h1] at a1
    rw [h2] at a2
    by_cases e : h % 2 = 1
    · have e1 : (h - 1) / 2 = h / 2 := by omega
      rw [e1, ← a2.1] at a3
      omega
    · have e1 : (h - 1) / 2 = h / 2 - 1 := by omega
      rw [e1] at a3
      have := ih (h / 2) (by omega) (heap / 2) (k / 2) a1.1.symm a2.1.symm (by omega)
      omega
theorem cm_and : ∀ (m a h : Nat), a < 2 ^ m → h &&& a = h → (h + (2 ^ m - 1 - a)) &&& a = h
  | 0, a, h, h1, h2 => by
    have : a = 0 := by simpa using h1
    subst this
    rw [Nat.and_zero] at h2 ⊢
    exact h2
  | m + 1, a, h, h1, h2 => by
    rw [Nat.pow_succ] at h1 ⊢
    have a1 := and2 h a
    have a2 := and2 (h + (2 ^ m * 2 - 1 - a)) a
    rw [h2] at a1
    have e1 : (h + (2 ^ m * 2 - 1 - a)) / 2 = h / 2 + (2 ^ m - 1 - a / 2) := by omega
    rw [e1, cm_and m (a / 2) (h / 2) (by omega) a1.1.symm] at a2
    omega
theorem sub_next : ∀ (m heap h : Nat), heap < 2 ^ m → h &&& heap = h → h < heap → h < (h + (2 ^ m - heap)) &&& heap ∧ ∀ k, k &&& heap = k → h < k → (h + (2 ^ m - heap)) &&& heap ≤ k
  | 0, heap, h, h1, h2, h3 => by
    have : heap < 1 := by simpa using h1
    omega
  | m + 1, a, h, h1, h2, h3 => by
    rw [Nat.pow_succ] at h1 ⊢
    have a1 := and2 h a
    have a2 := and2 (h + (2 ^ m * 2 - a)) a
    rw [h2] at a1
    by_cases c : a % 2 = 1 ∧ h % 2 = 0
    · have e1 : (h + (2 ^ m * 2 - a)) / 2 = h / 2 + (2 ^ m - 1 - a / 2) := by omega
      rw [e1, cm_and m (a / 2) (h / 2) (by omega) a1.1.symm] at a2
      refine ⟨by omega, fun k _ h5 => by omega⟩
    · have e1 : (h + (2 ^ m * 2 - a)) / 2 = h / 2 + (2 ^ m - a / 2) := by omega
      have ih := sub_next m (a / 2) (h / 2) (by omega) a1.1.symm (by omega)
      rw [e1] at a2
      rw [← a2.1] at ih
      refine ⟨by omega, fun k h4 h5 => ?_⟩
      have a3 := and2 k a
      rw [h4] at a3
      have := ih.2 (k / 2) a3.1.symm (by omega)
      omega
/-- the next greater half, as the class counts -/
def nxt (heap h : Nat) : Nat := (h + (2 ^ 32 - heap)) &&& heap
theorem iZ_wrap (z : Int) : iZ z = iZ (z + 4294967296) := by
  unfold iZ
  refine Int32.toBitVec_inj.mp (BitVec.eq_of_toInt_eq ?_)
  show (BitVec.ofInt 32 z).toInt = (BitVec.ofInt 32 (z + 4294967296)).toInt
  rw [BitVec.toInt_ofInt, BitVec.toInt_ofInt]
  have : (z + 4294967296).bmod (2 ^ 32) = z.bmod (2 ^ 32) := Int.add_bmod_right z (2 ^ 32)
  rw [this]
theorem iZ_nxt {heap h : Nat} (hh : heap < 2147483648) : iZ ((h : Int) - heap) &&& iZ (heap : Int) = iZ ((nxt heap h : Nat) : Int) := by
  rw [iZ_wrap, show (h : Int) - heap + 4294967296 = ((h + (2 ^ 32 - heap) : Nat) : Int) by omega, iZ_and]
  rfl
/-- how many are subsets below -/
def nsb (heap : Nat) : Nat → Nat := fb_ct fun k => k &&& heap == k
def nsbOk (heap : Nat) : Bool := nsb heap heap + 1 == 2 ^ bc heap
theorem nsb_all : (List.range 512).all nsbOk = true := by decide +kernel
theorem nsb_is {heap : Nat} (h : heap < 512) : nsb heap heap + 1 = 2 ^ bc heap := by
  have := List.all_eq_true.mp nsb_all heap (List.mem_range.mpr h)
  exact eq_of_beq this
theorem nsb_gap {heap : Nat} {a : Nat} : ∀ {b : Nat}, a ≤ b → (∀ k, a ≤ k → k < b → ¬ k &&& heap = k) → nsb heap b = nsb heap a
  | 0, h, _ => by have : a = 0 := by omega
                  rw [this]
  | b + 1, h, h2 => by
    by_cases e : a = b + 1
    · rw [e]
    · have ih := nsb_gap (heap := heap) (b := b) (by omega) (fun k h3 h4 => h2 k h3 (by omega))
      unfold nsb at ih ⊢
      rw [fb_ct_succ, ih]
      have : (b &&& heap == b) = false := beq_eq_false_iff_ne.mpr (h2 b (by omega) (by omega))
      rw [this]; rfl
theorem nsb_one {heap k : Nat} (h : k &&& heap = k) : nsb heap (k + 1) = nsb heap k + 1 := by
  unfold nsb
  rw [fb_ct_succ, beq_iff_eq.mpr h]; rfl
theorem skip_to {σ : Type} {I : Nat → σ → Prop} {heap : Nat} (hskip : ∀ k x, k < heap → ¬ k &&& heap = k → I k x → I (k + 1) x) {a : Nat} {x : σ} : ∀ {b : Nat}, a ≤ b → b ≤ heap → (∀ k, a ≤ k → k < b → ¬ k &&& heap = k) → I a x → I b x
  | 0, h, _, _, hI => by have : a = 0 := by omega
                         rw [this] at hI; exact hI
  | b + 1, h, h1, h2, hI => by
    by_cases e : a = b + 1
    · rw [← e]; exact hI
    · exact hskip b x (by omega) (h2 b (by omega) (by omega)) (skip_to hskip (b := b) (by omega) (by omega) (fun k h3 h4 => h2 k h3 (by omega)) hI)
theorem nxt_sub (heap h : Nat) : nxt heap h &&& heap = nxt heap h := by unfold nxt; rw [Nat.and_assoc, Nat.and_self]
/-- a loop over the halves of a heap -/
theorem xfor_sub {σ : Type} {sg : xS → Option xX} {st : Nat → Nat → σ → xS} {I : Nat → σ → Prop} {heap : Nat} (hh : heap < 512) (hp : 0 < heap)
    (hskip : ∀ k x, k < heap → ¬ k &&& heap = k → I k x → I (k + 1) x)
    (hstep : ∀ l h k x, l < 512 → h < k → k < heap → k &&& heap = k → nxt heap h = k → I k x → ∃ x', xfix sg (st (l + 1) h x) = xfix sg (st l k x') ∧ I (k + 1) x') {x : σ} (hI : I 1 x) : ∃ x' h', xfix sg (st (2 ^ bc heap - 2) 0 x) = xfix sg (st 0 h' x') ∧ I heap x' := by
  have key : ∀ l h x, h < heap → h &&& heap = h → nsb heap heap = nsb heap (h + 1) + l → I (h + 1) x → ∃ x' h', xfix sg (st l h x) = xfix sg (st 0 h' x') ∧ I heap x' := by
    intro l
    induction l with
    | zero =>
      intro h x h1 h2 h3 h4
      refine ⟨x, h, rfl, skip_to hskip (a := h + 1) (by omega) (Nat.le_refl _) (fun k k1 k2 k3 => ?_) h4⟩
      have e1 := nsb_one k3
      have e2 : nsb heap (h + 1) ≤ nsb heap k := fb_ct_mono _ k1
      have e3 : nsb heap (k + 1) ≤ nsb heap heap := fb_ct_mono _ k2
      omega
    | succ l ih =>
      intro h x h1 h2 h3 h4
      have hn := sub_next 32 heap h (by omega) h2 h1
      have hn1 : h < nxt heap h := hn.1
      have hl : nxt heap h < heap := by
        refine Classical.byContradiction fun hc => ?_
        have := nsb_gap (heap := heap) (a := h + 1) (b := heap) (by omega) (fun k k1 k2 k3 => by
          have : nxt heap h ≤ k := hn.2 k k3 (by omega)
          omega)
        omega
      have hs := nxt_sub heap h
      have h5 : I (nxt heap h) x := skip_to hskip (a := h + 1) (by omega) (by omega) (fun k k1 k2 k3 => by
        have : nxt heap h ≤ k := hn.2 k k3 (by omega)
        omega) h4
      have hb := fb_ct_le (fun k => k &&& heap == k) heap
      have hb2 : nsb heap heap ≤ heap := hb
      obtain ⟨x', g1, g2⟩ := hstep l h (nxt heap h) x (by omega) hn1 hl hs rfl h5
      obtain ⟨x'', h', g3, g4⟩ := ih (nxt heap h) x' hl hs (by
        have e1 := nsb_one hs
        have e2 := nsb_gap (heap := heap) (a := h + 1) (b := nxt heap h) (by omega) (fun k k1 k2 k3 => by
          have : nxt heap h ≤ k := hn.2 k k3 (by omega)
          omega)
        omega) g2
      exact ⟨x'', h', g1.trans g3, g4⟩
  have h0 : 0 &&& heap = 0 := Nat.zero_and heap
  have e1 := nsb_is hh
  have e2 := nsb_one h0
  have e3 : nsb heap 0 = 0 := rfl
  have e4 : nsb heap (0 + 1) ≤ nsb heap heap := fb_ct_mono _ hp
  refine key (2 ^ bc heap - 2) 0 x hp h0 ?_ hI
  omega
