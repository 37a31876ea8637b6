/-! rings, in plain mathematics -/
def bw (A : dA) (w x y : Nat) : Prop := (barS A (6 * x + w)).testBit y = true
theorem bw_irr {A : dA} {w x : Nat} (hw : w < 6) : ¬ bw A w x x := fun h => by
  obtain ⟨_, c, _, k, _, _, h5⟩ := (msk_bit _ 9 x).mp h
  rw [show (6 * x + w) / 6 = x by omega] at h5
  exact h5.2.2.2.1 rfl
/-- from there the ring's first part is reached in so many steps -/
def rcW (A : dA) (heap w p : Nat) : Nat → Nat → Prop
  | 0, q => q = p
  | k + 1, q => (heap.testBit q = true ∧ p ≤ q) ∧ ∃ q', bw A w q q' ∧ rcW A heap w p k q'
theorem rcW_f {A : dA} {heap w p : Nat} : ∀ {k q : Nat}, rcW A heap w p k q ↔ ∃ f : Nat → Nat, f 0 = q ∧ f k = p ∧ (∀ i, i < k → heap.testBit (f i) = true ∧ p ≤ f i) ∧ ∀ i, i < k → bw A w (f i) (f (i + 1))
  | 0, q => ⟨fun h => ⟨fun _ => p, h.symm, rfl, fun i hi => by omega, fun i hi => by omega⟩, fun ⟨f, h1, h2, _⟩ => by rw [← h1, h2]; rfl⟩
  | k + 1, q => by
    constructor
    · rintro ⟨h1, q', h2, h3⟩
      obtain ⟨f, f1, f2, f3, f4⟩ := rcW_f.mp h3
      refine ⟨fun i => if i = 0 then q else f (i - 1), rfl, ?_, fun i hi => ?_, fun i hi => ?_⟩
      · show (if k + 1 = 0 then q else f (k + 1 - 1)) = p
        rw [if_neg (by omega)]; exact f2
      · show heap.testBit (if i = 0 then q else f (i - 1)) = true ∧ p ≤ (if i = 0 then q else f (i - 1))
        by_cases e : i = 0
        · rw [if_pos e]; exact h1
        · rw [if_neg e]; exact f3 (i - 1) (by omega)
      · show bw A w (if i = 0 then q else f (i - 1)) (if i + 1 = 0 then q else f (i + 1 - 1))
        rw [if_neg (by omega : ¬ i + 1 = 0)]
        by_cases e : i = 0
        · rw [if_pos e, e]
          show bw A w q (f 0)
          rw [f1]; exact h2
        · rw [if_neg e]
          have := f4 (i - 1) (by omega)
          rwa [show i - 1 + 1 = i + 1 - 1 by omega] at this
    · rintro ⟨f, f1, f2, f3, f4⟩
      refine ⟨by rw [← f1]; exact f3 0 (by omega), f 1, by rw [← f1]; exact f4 0 (by omega), rcW_f.mpr ⟨fun i => f (i + 1), rfl, f2, fun i hi => f3 (i + 1) (by omega), fun i hi => f4 (i + 1) (by omega)⟩⟩
/-- no ring is shorter -/
def noS (A : dA) (heap w L : Nat) : Prop := ∀ k, 2 ≤ k → k < L → ∀ p, heap.testBit p = true → ¬ rcW A heap w p k p
/-- a closed stretch of a walk is a ring -/
theorem ring_of {A : dA} {heap w : Nat} (f : Nat → Nat) {i j : Nat} (hij : i < j) (he : f i = f j) (h1 : ∀ t, i ≤ t → t < j → heap.testBit (f t) = true) (h2 : ∀ t, i ≤ t → t < j → bw A w (f t) (f (t + 1))) : ∃ p, heap.testBit p = true ∧ rcW A heap w p (j - i) p := by
  obtain ⟨m, m1, m2, _⟩ := fb_low (fun t => ((f (i + t) : Nat) : Int)) (n := j - i) (by omega)
  refine ⟨f (i + m), h1 _ (by omega) (by omega), rcW_f.mpr ⟨fun t => if i + m + t < j then f (i + m + t) else f (i + m + t - (j - i)), ?_, ?_, fun t ht => ?_, fun t ht => ?_⟩⟩
  · show (if i + m + 0 < j then f (i + m + 0) else f (i + m + 0 - (j - i))) = f (i + m)
    rw [if_pos (by omega)]; rfl
  · show (if i + m + (j - i) < j then f (i + m + (j - i)) else f (i + m + (j - i) - (j - i))) = f (i + m)
    rw [if_neg (by omega), show i + m + (j - i) - (j - i) = i + m by omega]
  · show heap.testBit (if i + m + t < j then f (i + m + t) else f (i + m + t - (j - i))) = true ∧ f (i + m) ≤ (if i + m + t < j then f (i + m + t) else f (i + m + t - (j - i)))
    by_cases e : i + m + t < j
    · rw [if_pos e]
      have := m2 (m + t) (by omega)
      rw [show i + (m + t) = i + m + t by omega] at this
      exact ⟨h1 _ (by omega) e, by omega⟩
    · rw [if_neg e]
      have := m2 (m + t - (j - i)) (by omega)
      rw [show i + (m + t - (j - i)) = i + m + t - (j - i) by omega] at this
      exact ⟨h1 _ (by omega) (by omega), by omega⟩
  · show bw A w (if i + m + t < j then f (i + m + t) else f (i + m + t - (j - i))) (if i + m + (t + 1) < j then f (i + m + (t + 1)) else f (i + m + (t + 1) - (j - i)))
    by_cases e : i + m + t < j
    · rw [if_pos e]
      by_cases e2 : i + m + (t + 1) < j
      · rw [if_pos e2]; exact h2 _ (by omega) e
      · rw [if_neg e2, show i + m + (t + 1) - (j - i) = i by omega, he]
        have := h2 (i + m + t) (by omega) e
        rwa [show i + m + t + 1 = j by omega] at this
    · rw [if_neg e, if_neg (by omega)]
      have := h2 (i + m + t - (j - i)) (by omega) (by omega)
      rwa [show i + m + t - (j - i) + 1 = i + m + (t + 1) - (j - i) by omega] at this
theorem no_rep {A : dA} {heap w L : Nat} (hw : w < 6) (hS : noS A heap w L) (f : Nat → Nat) {i j : Nat} (hij : i < j) (hL : j - i < L) (he : f i = f j) (h1 : ∀ t, i ≤ t → t < j → heap.testBit (f t) = true) (h2 : ∀ t, i ≤ t → t < j → bw A w (f t) (f (t + 1))) : False := by
  by_cases e : j - i = 1
  · have := h2 i (Nat.le_refl _) hij
    rw [show i + 1 = j by omega, ← he] at this
    exact bw_irr hw this
  · obtain ⟨p, p1, p2⟩ := ring_of f hij he h1 h2
    exact hS (j - i) (by omega) hL p p1 p2
/-- what is on the way already isn't reached again -/
theorem no_back {A : dA} {heap w L p q n : Nat} (hw : w < 6) (hS : noS A heap w L) (hn : n < L) {r : Nat → Nat} (h1 : ∀ i, i < n → heap.testBit (r i) = true) (h2 : ∀ i, i + 1 < n → bw A w (r i) (r (i + 1))) (h3 : bw A w (r (n - 1)) q) (hr : rcW A heap w p (L - n) q) {i : Nat} (hi : i < n) : r i ≠ q := by
  intro he
  refine no_rep hw hS (fun t => if t < n then r t else q) (i := i) (j := n) hi (by omega) ?_ (fun t t1 t2 => ?_) (fun t t1 t2 => ?_)
  · show (if i < n then r i else q) = (if n < n then r n else q)
    rw [if_pos hi, if_neg (by omega)]; exact he
  · show heap.testBit (if t < n then r t else q) = true
    rw [if_pos t2]; exact h1 t t2
  · show bw A w (if t < n then r t else q) (if t + 1 < n then r (t + 1) else q)
    rw [if_pos t2]
    by_cases e : t + 1 < n
    · rw [if_pos e]; exact h2 t e
    · rw [if_neg e, show t = n - 1 by omega]; exact h3
/-- the next part of a ring -/
noncomputable def gnx (A : dA) (heap w p k x : Nat) : Nat := lst (fun q => bw A w x q ∧ rcW A heap w p k q) 9
/-- how a way goes on from its part n - 1 -/
noncomputable def gct (A : dA) (heap w p L n x : Nat) : Nat → Nat
  | 0 => x
  | j + 1 => gnx A heap w p (L - (n + j)) (gct A heap w p L n x j)
theorem gct_S {A : dA} {heap w p L n x : Nat} : ∀ j, gct A heap w p L n x (j + 1) = gct A heap w p L (n + 1) (gnx A heap w p (L - n) x) j
  | 0 => rfl
  | j + 1 => by
    show gnx A heap w p (L - (n + (j + 1))) (gct A heap w p L n x (j + 1)) = gnx A heap w p (L - (n + 1 + j)) (gct A heap w p L (n + 1) (gnx A heap w p (L - n) x) j)
    rw [gct_S j, show n + (j + 1) = n + 1 + j by omega]
theorem bw_lt {A : dA} {w x y : Nat} (h : bw A w x y) : y < 9 := ((msk_bit _ 9 y).mp h).1
