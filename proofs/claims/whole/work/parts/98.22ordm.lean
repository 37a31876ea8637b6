/-! orders, in plain mathematics -/
theorem sm_rev (f : Nat → Int) : ∀ n, sm f n = sm (fun i => f (n - 1 - i)) n
  | 0 => rfl
  | n + 1 => by
    have e : sm (fun i => f (n + 1 - 1 - i)) (n + 1) = f n + sm (fun i => f (n - 1 - i)) n := by
      rw [show n + 1 = 1 + n by omega, sm_add]
      have : sm (fun i => f (1 + n - 1 - i)) 1 = f n := by
        show 0 + f (1 + n - 1 - 0) = f n
        rw [show 1 + n - 1 - 0 = n by omega]; omega
      rw [this]
      congr 1
      exact sm_cg fun i hi => by rw [show 1 + n - 1 - (1 + i) = n - 1 - i by omega]
    rw [e, ← sm_rev f n]
    show sm f n + f n = f n + sm f n
    omega
theorem sm_shift (f : Nat → Int) (h0 : f 0 = 0) (n : Nat) : sm f (n + 1) = sm (fun i => f (i + 1)) n := by
  rw [show n + 1 = 1 + n by omega, sm_add]
  have : sm f 1 = 0 := by show 0 + f 0 = 0; omega
  rw [this]
  have e : (fun i => f (1 + i)) = fun i => f (i + 1) := funext fun i => by rw [Nat.add_comm]
  rw [e]; omega
/-- a sum over proper sub-sets, from the other end -/
theorem sm_comp {heap : Nat} (h1 : 1 ≤ heap) {f : Nat → Int} (h0 : f 0 = 0) : sm f heap = sm (fun k => if k = 0 then 0 else f (heap - k)) heap := by
  obtain ⟨n, rfl⟩ : ∃ n, heap = n + 1 := ⟨heap - 1, by omega⟩
  rw [sm_shift f h0, sm_shift (fun k => if k = 0 then 0 else f (n + 1 - k)) rfl, sm_rev]
  refine sm_cg fun i hi => ?_
  show f (n - 1 - i + 1) = if i + 1 = 0 then 0 else f (n + 1 - (i + 1))
  rw [if_neg (by omega), show n - 1 - i + 1 = n + 1 - (i + 1) by omega]
theorem ndn_sb {a b : Nat} (h : b &&& a = b) : ndn a b = a - b := by have := ndn_add a b h; omega
/-- one half of each pair: chosen by a bit, or the lesser -/
theorem sm_pair {heap : Nat} (h1 : 1 ≤ heap) {f : Nat → Int} {c : Nat → Prop} [DecidablePred c] (hs : ∀ k, k < heap → ¬ k &&& heap = k → f k = 0) (h0 : f 0 = 0) (hf : ∀ k, 1 ≤ k → k < heap → k &&& heap = k → f (ndn heap k) = f k) (hc : ∀ k, 1 ≤ k → k < heap → k &&& heap = k → (c (ndn heap k) ↔ ¬ c k)) : sm (fun k => if c k then f k else 0) heap = sm (fun k => if k < ndn heap k then f k else 0) heap := by
  have gen : ∀ (d : Nat → Prop) [DecidablePred d], (∀ k, 1 ≤ k → k < heap → k &&& heap = k → (d (ndn heap k) ↔ ¬ d k)) → sm f heap = sm (fun k => if d k then f k else 0) heap + sm (fun k => if d k then f k else 0) heap := by
    intro d _ hd
    have e1 : sm f heap = sm (fun k => if d k then f k else 0) heap + sm (fun k => if d k then 0 else f k) heap := by
      rw [← sm_plus]
      refine sm_cg fun k _ => ?_
      by_cases z : d k
      · rw [if_pos z, if_pos z]; omega
      · rw [if_neg z, if_neg z]; omega
    have e2 : sm (fun k => if d k then 0 else f k) heap = sm (fun k => if d k then f k else 0) heap := by
      have z0 : (if d 0 then 0 else f 0) = 0 := by split <;> omega
      rw [sm_comp h1 (f := fun k => if d k then 0 else f k) z0]
      refine sm_cg fun k hk => ?_
      show (if k = 0 then 0 else if d (heap - k) then 0 else f (heap - k)) = if d k then f k else 0
      by_cases z : k = 0
      · rw [if_pos z, z, h0]; split <;> rfl
      · rw [if_neg z]
        by_cases s : k &&& heap = k
        · have e := ndn_sb s
          have q1 := hd k (by omega) hk s
          have q2 := hf k (by omega) hk s
          rw [e] at q1 q2
          by_cases w : d k
          · rw [if_neg (fun y => q1.mp y w), if_pos w, q2]
          · rw [if_pos (q1.mpr w), if_neg w]
        · have s' : ¬ (heap - k) &&& heap = heap - k := fun y => s (by
            have e := ndn_sb y
            have e2 : ndn heap (heap - k) = k := by omega
            rw [← e2]; exact ndn_ss heap (heap - k))
          rw [hs (heap - k) (by omega) s', hs k hk s]
          (repeat' split) <;> rfl
    omega
  have a := gen c hc
  have b := gen (fun k => k < ndn heap k) (fun k k1 k2 k3 => by
    rw [ndn_nn k3]
    have := ndn_add heap k k3
    constructor
    · intro z; omega
    · intro z
      have ne : k ≠ ndn heap k := fun w => by
        have hb : ∀ i, k.testBit i = false := fun i => by
          have q : (ndn heap k).testBit i = (heap.testBit i && !k.testBit i) := ndn_bit heap k i
          rw [← w] at q
          cases e : k.testBit i
          · rfl
          · rw [e] at q; simp at q
        have : k = 0 := Nat.eq_of_testBit_eq fun i => by rw [hb i, Nat.zero_testBit]
        omega
      omega)
  omega
theorem ordP_pos {one : Nat → Prop} {ok pt : Nat → Nat → Prop} {heap : Nat} {T : Nat → Int} (hT : ∀ k, 1 ≤ k → k < heap → 0 ≤ T k) : ∀ i, i ≤ heap → 0 ≤ ordP one ok pt heap T i ∧ (0 < ordP one ok pt heap T i ↔ one heap ∨ ∃ half, half < i ∧ hlf one ok heap half ∧ half < ndn heap half ∧ pt heap half ∧ 0 < T half ∧ 0 < T (ndn heap half)) := by
  intro i
  induction i with
  | zero =>
    intro _
    have e : ordP one ok pt heap T 0 = @ite _ (one heap) (Classical.propDecidable _) 1 0 := by
      show @ite _ (one heap) (Classical.propDecidable _) 1 0 + 0 = _
      rw [Int.add_zero]
    rw [e]
    by_cases z : one heap
    · rw [if_pos z]; exact ⟨by omega, fun _ => .inl z, fun _ => by omega⟩
    · rw [if_neg z]; exact ⟨by omega, fun h => by omega, fun h => h.elim (fun h => absurd h z) fun ⟨_, h, _⟩ => by omega⟩
  | succ i ih =>
    intro hi
    obtain ⟨i1, i2⟩ := ih (by omega)
    rw [ordP_S]
    by_cases y : hlf one ok heap i ∧ i < ndn heap i ∧ pt heap i
    · rw [if_pos y]
      obtain ⟨r1, r2, r3, r4⟩ := hlf_rest y.1 (by omega)
      have p1 := hT i r2 (by omega)
      have p2 := hT (ndn heap i) r3 r4
      have pm := Int.mul_nonneg p1 p2
      refine ⟨by omega, ?_⟩
      constructor
      · intro h
        by_cases z : 0 < ordP one ok pt heap T i
        · exact (i2.mp z).imp id fun ⟨half, q1, q2⟩ => ⟨half, by omega, q2⟩
        · have hm : 0 < T i * T (ndn heap i) := by omega
          have n1 : T i ≠ 0 := fun w => by rw [w, Int.zero_mul] at hm; omega
          have n2 : T (ndn heap i) ≠ 0 := fun w => by rw [w, Int.mul_zero] at hm; omega
          exact .inr ⟨i, by omega, y.1, y.2.1, y.2.2, by omega, by omega⟩
      · intro h
        by_cases z : one heap ∨ ∃ half, half < i ∧ hlf one ok heap half ∧ half < ndn heap half ∧ pt heap half ∧ 0 < T half ∧ 0 < T (ndn heap half)
        · have := i2.mpr z; omega
        · rcases h with h | ⟨half, q1, q2, q3, q4, q5, q6⟩
          · exact absurd (.inl h) z
          · by_cases w : half = i
            · subst w
              have := Int.mul_pos q5 q6
              omega
            · exact absurd (.inr ⟨half, by omega, q2, q3, q4, q5, q6⟩) z
    · rw [if_neg y]
      refine ⟨by omega, ?_⟩
      rw [Int.add_zero, i2]
      constructor
      · exact fun z => z.imp id fun ⟨half, q1, q2⟩ => ⟨half, by omega, q2⟩
      · refine fun z => z.imp id fun ⟨half, q1, q2, q3, q4, q5⟩ => ⟨half, ?_, q2, q3, q4, q5⟩
        by_cases w : half = i
        · subst w; exact absurd ⟨q2, q3, q4⟩ y
        · omega
theorem leaW_ne {gw : Nat → Nat → Nat → Prop} {cst : Nat → Nat → Int} {heap half : Nat} {b : Int} {s : Int × Nat × Nat} (hb : 0 ≤ b) (hc : ∀ w, w < 6 → 0 ≤ cst heap w) : ∀ w, w ≤ 6 → ((leaW gw cst heap half b s w).1 ≠ -1 ↔ s.1 ≠ -1 ∨ ∃ v, v < w ∧ gw heap half v)
  | 0, _ => ⟨.inl, fun z => z.elim id fun ⟨v, h, _⟩ => by omega⟩
  | w + 1, hw => by
    have ih := leaW_ne (gw := gw) (half := half) (s := s) hb hc w (by omega)
    have h0 := hc w (by omega)
    rw [leaW_S]
    by_cases y : gw heap half w ∧ ((leaW gw cst heap half b s w).1 = -1 ∨ cst heap w + b < (leaW gw cst heap half b s w).1)
    · rw [if_pos y]
      exact ⟨fun _ => .inr ⟨w, by omega, y.1⟩, fun _ => by omega⟩
    · rw [if_neg y]
      constructor
      · exact fun z => (ih.mp z).imp id fun ⟨v, q1, q2⟩ => ⟨v, by omega, q2⟩
      · intro z w1
        have z2 : ¬ (s.1 ≠ -1 ∨ ∃ v, v < w ∧ gw heap half v) := fun q => ih.mpr q w1
        rcases z with z | ⟨v, q1, q2⟩
        · exact z2 (.inl z)
        · by_cases e : v = w
          · subst e; exact y ⟨q2, .inl w1⟩
          · exact z2 (.inr ⟨v, by omega, q2⟩)
theorem leaP_ne {one : Nat → Prop} {ok : Nat → Nat → Prop} {gw : Nat → Nat → Nat → Prop} {cst : Nat → Nat → Int} {heap : Nat} {T : Nat → Int × Nat × Nat} (hc : ∀ w, w < 6 → 0 ≤ cst heap w) (hT : ∀ k, 1 ≤ k → k < heap → -1 ≤ (T k).1) : ∀ i, i ≤ heap → ((leaP one ok gw cst heap T i).1 ≠ -1 ↔ one heap ∨ ∃ half, half < i ∧ hlf one ok heap half ∧ (T half).1 ≠ -1 ∧ (T (ndn heap half)).1 ≠ -1 ∧ ∃ w, w < 6 ∧ gw heap half w) := by
  intro i
  induction i with
  | zero =>
    intro _
    show (@ite _ (one heap) (Classical.propDecidable _) ((0, 0, 0) : Int × Nat × Nat) (-1, 0, 0)).1 ≠ -1 ↔ _
    by_cases z : one heap
    · rw [if_pos z]; exact ⟨fun _ => .inl z, fun _ => by decide⟩
    · rw [if_neg z]; exact ⟨fun h => absurd rfl h, fun h => h.elim (fun h => absurd h z) fun ⟨_, h, _⟩ => by omega⟩
  | succ i ih =>
    intro hi
    have i2 := ih (by omega)
    rw [leaP_S]
    by_cases y : hlf one ok heap i ∧ (T i).1 ≠ -1 ∧ (T (ndn heap i)).1 ≠ -1
    · rw [if_pos y]
      obtain ⟨r1, r2, r3, r4⟩ := hlf_rest y.1 (by omega)
      have p1 := hT i r2 (by omega)
      have p2 := hT (ndn heap i) r3 r4
      rw [leaW_ne (by omega) hc 6 (by omega), i2]
      constructor
      · rintro ((z | ⟨half, q1, q2⟩) | z)
        · exact .inl z
        · exact .inr ⟨half, by omega, q2⟩
        · exact .inr ⟨i, by omega, y.1, y.2.1, y.2.2, z⟩
      · rintro (z | ⟨half, q1, q2, q3, q4, q5⟩)
        · exact .inl (.inl z)
        · by_cases w : half = i
          · subst w; exact .inr q5
          · exact .inl (.inr ⟨half, by omega, q2, q3, q4, q5⟩)
    · rw [if_neg y, i2]
      constructor
      · exact fun z => z.imp id fun ⟨half, q1, q2⟩ => ⟨half, by omega, q2⟩
      · refine fun z => z.imp id fun ⟨half, q1, q2, q3, q4, q5⟩ => ⟨half, ?_, q2, q3, q4, q5⟩
        by_cases w : half = i
        · subst w; exact absurd ⟨q2, q3, q4⟩ y
        · omega
/-- a heap has an order just when it has a cheapest one -/
theorem ord_lea {one : Nat → Prop} {ok pt : Nat → Nat → Prop} {gw : Nat → Nat → Nat → Prop} {cst : Nat → Nat → Int} {N : Nat} (hc : ∀ heap w, w < 6 → 0 ≤ cst heap w ∧ cst heap w ≤ 1089) (hpt : ∀ heap half, heap < N → 1 ≤ half → half < heap → half &&& heap = half → (pt heap half ↔ (∃ w, w < 6 ∧ gw heap half w) ∨ ∃ w, w < 6 ∧ gw heap (ndn heap half) w)) (hok : ∀ heap half, half &&& heap = half → (ok heap half ↔ ok heap (ndn heap half))) : ∀ k, 1 ≤ k → k < N → N ≤ 512 → (0 < ordT one ok pt (k + 1) k ↔ (leaT one ok gw cst (k + 1) k).1 ≠ -1) := by
  intro k
  induction k using Nat.strongRecOn with
  | ind heap ih =>
    intro h1 hN hN5
    have eo : ordT one ok pt (heap + 1) heap = ordP one ok pt heap (ordT one ok pt heap) heap := tab_at _ _ (by omega)
    have el : leaT one ok gw cst (heap + 1) heap = leaP one ok gw cst heap (leaT one ok gw cst heap) heap := tab_at _ _ (by omega)
    have bT : ∀ k, 1 ≤ k → k < heap → 0 ≤ ordT one ok pt heap k := fun k k1 k2 => (ordT_b heap k k1 k2 (by omega)).1
    have bL : ∀ k, 1 ≤ k → k < heap → -1 ≤ (leaT one ok gw cst heap k).1 := fun k k1 k2 => (leaT_b hc heap k k1 k2).1
    have iH : ∀ k, 1 ≤ k → k < heap → (0 < ordT one ok pt heap k ↔ (leaT one ok gw cst heap k).1 ≠ -1) := fun k k1 k2 => by
      have e1 : ordT one ok pt heap k = ordT one ok pt (k + 1) k := tab_st _ _ k2 (by omega)
      have e2 : leaT one ok gw cst heap k = leaT one ok gw cst (k + 1) k := tab_st _ _ k2 (by omega)
      rw [e1, e2]
      exact ih k k2 k1 (by omega) hN5
    rw [eo, el, (ordP_pos bT heap (Nat.le_refl _)).2, leaP_ne (fun w hw => (hc heap w hw).1) bL heap (Nat.le_refl _)]
    refine or_congr_right ?_
    constructor
    · rintro ⟨half, q1, q2, q3, q4, q5, q6⟩
      obtain ⟨r1, r2, r3, r4⟩ := hlf_rest q2 q1
      have s := q2.2.2.1
      rcases (hpt heap half hN r2 q1 s).mp q4 with z | z
      · exact ⟨half, q1, q2, (iH half r2 q1).mp q5, (iH _ r3 r4).mp q6, z⟩
      · refine ⟨ndn heap half, r4, ⟨q2.1, r3, ndn_ss heap half, (hok heap half s).mp q2.2.2.2⟩, (iH _ r3 r4).mp q6, ?_, z⟩
        rw [ndn_nn s]; exact (iH half r2 q1).mp q5
    · rintro ⟨half, q1, q2, q3, q4, q5⟩
      obtain ⟨r1, r2, r3, r4⟩ := hlf_rest q2 q1
      have s := q2.2.2.1
      have nn := ndn_nn s
      by_cases w : half < ndn heap half
      · exact ⟨half, q1, q2, w, (hpt heap half hN r2 q1 s).mpr (.inl q5), (iH half r2 q1).mpr q3, (iH _ r3 r4).mpr q4⟩
      · have ne : half ≠ ndn heap half := fun w => by
          have q : ∀ i, (ndn heap half).testBit i = (heap.testBit i && !half.testBit i) := ndn_bit heap half
          have : half = 0 := Nat.eq_of_testBit_eq fun i => by
            have qi := q i
            rw [← w] at qi
            cases e : half.testBit i
            · rw [Nat.zero_testBit]
            · rw [e] at qi; simp at qi
          omega
        refine ⟨ndn heap half, r4, ⟨q2.1, r3, ndn_ss heap half, (hok heap half s).mp q2.2.2.2⟩, by rw [nn]; omega, (hpt heap _ hN r3 r4 (ndn_ss heap half)).mpr (.inr (by rw [nn]; exact q5)), (iH _ r3 r4).mpr q4, ?_⟩
        rw [nn]; exact (iH half r2 q1).mpr q3
