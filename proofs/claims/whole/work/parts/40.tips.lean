/-! the reference: what tips, hands, what lies below -/
/-- a cell is one of a heap's -/
def inH (A : dA) (heap c : Nat) : Prop := ∃ p : Nat, aC A c = p ∧ heap.testBit p = true
theorem inH_no {A : dA} {heap c : Nat} (h : aC A c = -1) : ¬ inH A heap c := fun ⟨p, h1, _⟩ => by omega
theorem inH_iff {A : dA} {heap c p : Nat} (h : aC A c = p) : inH A heap c ↔ heap.testBit p = true := ⟨fun ⟨q, h1, h2⟩ => by
  have : q = p := by omega
  rw [← this]; exact h2, fun h2 => ⟨p, h, h2⟩⟩
/-- a sum -/
def sm (f : Nat → Int) : Nat → Int
  | 0 => 0
  | n + 1 => sm f n + f n
theorem sm_cg {f g : Nat → Int} : ∀ {n : Nat}, (∀ k, k < n → f k = g k) → sm f n = sm g n
  | 0, _ => rfl
  | n + 1, h => by
    unfold sm
    rw [sm_cg (n := n) (fun k hk => h k (by omega)), h n (by omega)]
theorem sm_le {f : Nat → Int} {b : Nat} : ∀ {n : Nat}, (∀ k, k < n → 0 ≤ f k ∧ f k ≤ b) → 0 ≤ sm f n ∧ sm f n ≤ b * n
  | 0, _ => by constructor <;> simp [sm]
  | n + 1, h => by
    have := sm_le (n := n) (fun k hk => h k (by omega))
    have h2 := h n (by omega)
    unfold sm
    rw [nS, Int.mul_add]
    omega
/-- the highest index with a property, -1 without one -/
noncomputable def hst (p : Nat → Prop) : Nat → Int
  | 0 => -1
  | n + 1 => @ite _ (p n) (Classical.propDecidable _) (n : Int) (hst p n)
theorem hst_rng (p : Nat → Prop) : ∀ n, -1 ≤ hst p n ∧ hst p n < n
  | 0 => by unfold hst; omega
  | n + 1 => by
    unfold hst
    have := hst_rng p n
    by_cases h : p n
    · rw [if_pos h]; omega
    · rw [if_neg h]; omega
theorem hst_cg {p q : Nat → Prop} : ∀ {n : Nat}, (∀ k, k < n → (p k ↔ q k)) → hst p n = hst q n
  | 0, _ => rfl
  | n + 1, h => by
    unfold hst
    rw [hst_cg (n := n) (fun k hk => h k (by omega))]
    by_cases e : p n
    · rw [if_pos e, if_pos ((h n (by omega)).mp e)]
    · rw [if_neg e, if_neg (fun z => e ((h n (by omega)).mpr z))]
theorem hst_or (p : Nat → Prop) (a : Nat) : ∀ n, a < n → hst (fun x => p x ∨ x = a) n = if hst p n < a then (a : Int) else hst p n
  | 0, h => by omega
  | n + 1, h => by
    by_cases e : n = a
    · subst e
      have := hst_rng p n
      unfold hst
      rw [if_pos (.inr rfl)]
      by_cases e2 : p n
      · rw [if_pos e2, if_neg (by omega)]
      · rw [if_neg e2, if_pos (by omega)]
    · have ih := hst_or p a n (by omega)
      unfold hst
      by_cases e2 : p n
      · rw [if_pos (.inl e2), if_pos e2, if_neg (by omega)]
      · rw [if_neg (fun z => z.elim e2 e), if_neg e2]; exact ih
theorem lst_or (p : Nat → Prop) (a n : Nat) (h : a ≤ n) : lst (fun x => p x ∨ x = a) n = if a < lst p n then a else lst p n := by
  have h0 := lst_le p n
  split
  · rename_i h1
    exact lst_eq h (fun i hi z => z.elim (lst_no p n i (by omega)) (by omega)) (fun _ => .inr rfl)
  · rename_i h1
    exact lst_eq h0 (fun i hi z => z.elim (lst_no p n i hi) (by omega)) (fun h2 => .inl (lst_is p n h2))
noncomputable def tN (A : dA) (heap : Nat) : Nat → Int := sm fun c => @ite _ (inH A heap c) (Classical.propDecidable _) 1 0
noncomputable def tX (A : dA) (heap : Nat) : Nat → Int := sm fun c => @ite _ (inH A heap c) (Classical.propDecidable _) (2 * ((c % 8 : Nat) : Int) + 1) 0
noncomputable def tY (A : dA) (heap : Nat) : Nat → Int := sm fun c => @ite _ (inH A heap c) (Classical.propDecidable _) (2 * ((c / 8 % 8 : Nat) : Int) + 1) 0
/-- a heap's cells of the floor have this number -/
def onX (A : dA) (heap fl i x : Nat) : Prop := ∃ c, c < i ∧ inH A heap c ∧ c / 64 = fl ∧ c % 8 = x
def onY (A : dA) (heap fl i y : Nat) : Prop := ∃ c, c < i ∧ inH A heap c ∧ c / 64 = fl ∧ c / 8 % 8 = y
theorem onX_no {A : dA} {heap fl i : Nat} (h : ¬ (inH A heap i ∧ i / 64 = fl)) : onX A heap fl (i + 1) = onX A heap fl i := funext fun x => propext ⟨fun ⟨c, a, b, d, e⟩ => ⟨c, by
  by_cases e2 : c = i
  · subst e2; exact absurd ⟨b, d⟩ h
  · omega, b, d, e⟩, fun ⟨c, a, b⟩ => ⟨c, by omega, b⟩⟩
theorem onX_is {A : dA} {heap fl i : Nat} (h : inH A heap i ∧ i / 64 = fl) : onX A heap fl (i + 1) = fun x => onX A heap fl i x ∨ x = i % 8 := funext fun x => propext ⟨fun ⟨c, a, b, d, e⟩ => by
  by_cases e2 : c = i
  · subst e2; exact .inr e.symm
  · exact .inl ⟨c, by omega, b, d, e⟩, fun z => z.elim (fun ⟨c, a, b⟩ => ⟨c, by omega, b⟩) (fun e => ⟨i, by omega, h.1, h.2, e.symm⟩)⟩
theorem onY_no {A : dA} {heap fl i : Nat} (h : ¬ (inH A heap i ∧ i / 64 = fl)) : onY A heap fl (i + 1) = onY A heap fl i := funext fun x => propext ⟨fun ⟨c, a, b, d, e⟩ => ⟨c, by
  by_cases e2 : c = i
  · subst e2; exact absurd ⟨b, d⟩ h
  · omega, b, d, e⟩, fun ⟨c, a, b⟩ => ⟨c, by omega, b⟩⟩
theorem onY_is {A : dA} {heap fl i : Nat} (h : inH A heap i ∧ i / 64 = fl) : onY A heap fl (i + 1) = fun x => onY A heap fl i x ∨ x = i / 8 % 8 := funext fun x => propext ⟨fun ⟨c, a, b, d, e⟩ => by
  by_cases e2 : c = i
  · subst e2; exact .inr e.symm
  · exact .inl ⟨c, by omega, b, d, e⟩, fun z => z.elim (fun ⟨c, a, b⟩ => ⟨c, by omega, b⟩) (fun e => ⟨i, by omega, h.1, h.2, e.symm⟩)⟩
def fls (n s l h : Int) : Prop := s < 2 * n * l ∨ 2 * n * (h + 1) < s
def tps (A : dA) (heap fl : Nat) : Prop := fls (tN A heap 512) (tX A heap 512) (lst (onX A heap fl 512) 8) (hst (onX A heap fl 512) 8) ∨ fls (tN A heap 512) (tY A heap 512) (lst (onY A heap fl 512) 8) (hst (onY A heap fl 512) 8)
theorem tN_b (A : dA) (heap : Nat) {i : Nat} (hi : i ≤ 512) : 0 ≤ tN A heap i ∧ tN A heap i ≤ 512 := by
  have := sm_le (f := fun c => @ite _ (inH A heap c) (Classical.propDecidable _) 1 0) (b := 1) (n := i) (fun k hk => by
    by_cases e : inH A heap k
    · rw [if_pos e]; omega
    · rw [if_neg e]; omega)
  unfold tN
  omega
theorem tX_b (A : dA) (heap : Nat) {i : Nat} (hi : i ≤ 512) : 0 ≤ tX A heap i ∧ tX A heap i ≤ 7680 := by
  have := sm_le (f := fun c => @ite _ (inH A heap c) (Classical.propDecidable _) (2 * ((c % 8 : Nat) : Int) + 1) 0) (b := 15) (n := i) (fun k hk => by
    by_cases e : inH A heap k
    · rw [if_pos e]; omega
    · rw [if_neg e]; omega)
  unfold tX
  omega
theorem tY_b (A : dA) (heap : Nat) {i : Nat} (hi : i ≤ 512) : 0 ≤ tY A heap i ∧ tY A heap i ≤ 7680 := by
  have := sm_le (f := fun c => @ite _ (inH A heap c) (Classical.propDecidable _) (2 * ((c / 8 % 8 : Nat) : Int) + 1) 0) (b := 15) (n := i) (fun k hk => by
    by_cases e : inH A heap k
    · rw [if_pos e]; omega
    · rw [if_neg e]; omega)
  unfold tY
  omega
theorem mul_b {a b : Int} {m n : Int} (h1 : 0 ≤ a ∧ a ≤ m) (h2 : 0 ≤ b ∧ b ≤ n) : 0 ≤ a * b ∧ a * b ≤ m * n := ⟨Int.mul_nonneg h1.1 h2.1, Int.mul_le_mul h1.2 h2.2 h2.1 (by omega)⟩
theorem m_tips {A : dA} {heap fl : Nat} {M : xM} (h : mA M A) (hh : heap < 512) (hf : fl ≤ 8) : fX12_tips [.inr (.inr (12, 0)), .inl (iZ (heap)), .inl (iZ (fl))] M = some (some (.inl (bP (tps A heap fl))), M) := by
  show xfix gX12_tips (0, [some (.inr (.inr (12, 0))), some (.inl (iZ (heap))), some (.inl (iZ (fl))), none, none, none, none, none, none, none, none, none, none], [], M) = _; rw [xfix_unf, sX12_tips_0]
  simp (disch := omega) only [xk_none, xk_inl, xk_inr, xk_ite, xri_v, xrl_v, xrv_v, xb_z0, xb_z1, xb_b2, if_true, if_false, ite_true, ite_false, iZ_lit, iZ_m1, iZ_m99, iZ_m8, iZ_add, iZ_sub, iZ_mul, iZ_neg, nz0, nzi, iZ_lt, iZ_le, iZ_inj, b2_z, b2_o, ite_bPz, ite_bPo, xb_bP, iZ_xin, if_pos, ite_self, ↓reduceIte, Int.reduceAdd, Int.reduceSub, Int.reduceMul, Int.reduceNeg, Int.reduceLT, Int.reduceLE, if_neg, nS, iZ_clampN, iZ_bit, iZ_one, iZ_and, iZ_or, iZ_ndn]
  have hl := xfor_F (sg := gX12_tips) (fun i => (25, [some (.inr (.inr (12, 0))), some (.inl (iZ (heap))), some (.inl (iZ (fl))), some (.inl (iZ ((tN A heap i)))), some (.inl (iZ ((tX A heap i)))), some (.inl (iZ ((tY A heap i)))), some (.inl (iZ ((lst (onX A heap fl i) 8)))), some (.inl (iZ ((hst (onX A heap fl i) 8)))), some (.inl (iZ ((lst (onY A heap fl i) 8)))), some (.inl (iZ ((hst (onY A heap fl i) 8)))), some (.inl (iZ (i))), none, none], [], M)) (a := 0) (n := 512) (by omega) (fun i _ hi => by
    have b1 := tN_b A heap (i := i) (by omega)
    have b2 := tX_b A heap (i := i) (by omega)
    have b3 := tY_b A heap (i := i) (by omega)
    have b4 := lst_le (onX A heap fl i) 8
    have b5 := lst_le (onY A heap fl i) 8
    have b6 := hst_rng (onX A heap fl i) 8
    have b7 := hst_rng (onY A heap fl i) 8
    have e1 : tN A heap (i + 1) = tN A heap i + @ite _ (inH A heap i) (Classical.propDecidable _) 1 0 := rfl
    have e2 : tX A heap (i + 1) = tX A heap i + @ite _ (inH A heap i) (Classical.propDecidable _) (2 * ((i % 8 : Nat) : Int) + 1) 0 := rfl
    have e3 : tY A heap (i + 1) = tY A heap i + @ite _ (inH A heap i) (Classical.propDecidable _) (2 * ((i / 8 % 8 : Nat) : Int) + 1) 0 := rfl
    rw [e1, e2, e3]
    have hc := h.ok.C hi
    have hP := h.ok.P
    rw [xfix_unf, sX12_tips_25]
    simp (disch := omega) only [xk_none, xk_inl, xk_inr, xk_ite, xri_v, xrl_v, xrv_v, xb_z0, xb_z1, xb_b2, if_true, if_false, ite_true, ite_false, iZ_lit, iZ_m1, iZ_m99, iZ_m8, iZ_add, iZ_sub, iZ_mul, iZ_neg, nz0, nzi, iZ_lt, iZ_le, iZ_inj, b2_z, b2_o, ite_bPz, ite_bPo, xb_bP, iZ_xin, if_pos, ite_self, ↓reduceIte, Int.reduceAdd, Int.reduceSub, Int.reduceMul, Int.reduceNeg, Int.reduceLT, Int.reduceLE, if_neg, nS, iZ_clampN, iZ_bit, iZ_one, iZ_and, iZ_or, iZ_ndn, h.C hi]
    by_cases c1 : aC A i = -1
    · have n1 := inH_no (heap := heap) c1
      rw [if_pos c1, if_neg n1, if_neg n1, if_neg n1, onX_no (fun z => n1 z.1), onY_no (fun z => n1 z.1), Int.add_zero, Int.add_zero, Int.add_zero]
    · obtain ⟨p, hp⟩ : ∃ p : Nat, aC A i = p := ⟨(aC A i).toNat, by omega⟩
      rw [if_neg c1, hp]
      simp (disch := omega) only [xk_none, xk_inl, xk_inr, xk_ite, xri_v, xrl_v, xrv_v, xb_z0, xb_z1, xb_b2, if_true, if_false, ite_true, ite_false, iZ_lit, iZ_m1, iZ_m99, iZ_m8, iZ_add, iZ_sub, iZ_mul, iZ_neg, nz0, nzi, iZ_lt, iZ_le, iZ_inj, b2_z, b2_o, ite_bPz, ite_bPo, xb_bP, iZ_xin, if_pos, ite_self, ↓reduceIte, Int.reduceAdd, Int.reduceSub, Int.reduceMul, Int.reduceNeg, Int.reduceLT, Int.reduceLE, if_neg, nS, iZ_clampN, iZ_bit, iZ_one, iZ_and, iZ_or, iZ_ndn, iZ_div, Int.ediv_nonneg, z8, z88, z64]
      by_cases c2 : heap.testBit p = true
      · have n1 := (inH_iff (heap := heap) hp).mpr c2
        rw [if_pos c2, if_pos n1, if_pos n1, if_pos n1]
        by_cases c3 : i / 64 = fl
        · rw [if_pos c3, onX_is ⟨n1, c3⟩, onY_is ⟨n1, c3⟩, lst_or _ _ _ (by omega), lst_or _ _ _ (by omega), hst_or _ _ _ (by omega), hst_or _ _ _ (by omega)]
          generalize hlX : lst (onX A heap fl i) 8 = lX at *
          generalize hlY : lst (onY A heap fl i) 8 = lY at *
          generalize hhX : hst (onX A heap fl i) 8 = hX at *
          generalize hhY : hst (onY A heap fl i) 8 = hY at *
          have bx : i % 8 < 8 := by omega
          have by' : i / 8 % 8 < 8 := by omega
          generalize i % 8 = x at *
          generalize i / 8 % 8 = y at *
          have e161 : ∀ (l1 l2 : Nat) (h1 : Int), xfix gX12_tips (161, [some (.inr (.inr (12, 0))), some (.inl (iZ (heap))), some (.inl (iZ (fl))), some (.inl (iZ ((tN A heap i + 1)))), some (.inl (iZ ((tX A heap i + (2 * (x : Int) + 1))))), some (.inl (iZ ((tY A heap i + (2 * (y : Int) + 1))))), some (.inl (iZ (l1))), some (.inl (iZ (h1))), none, some (.inl (iZ (hY))), some (.inl (iZ (i))), none, some (.inl (iZ (y)))], [.inl (iZ (l2))], M) = xfix gX12_tips (25, [some (.inr (.inr (12, 0))), some (.inl (iZ (heap))), some (.inl (iZ (fl))), some (.inl (iZ ((tN A heap i + 1)))), some (.inl (iZ ((tX A heap i + (2 * (x : Int) + 1))))), some (.inl (iZ ((tY A heap i + (2 * (y : Int) + 1))))), some (.inl (iZ (l1))), some (.inl (iZ (h1))), some (.inl (iZ (l2))), some (.inl (iZ ((if hY < (y : Int) then (y : Int) else hY)))), some (.inl (iZ (((i : Int) + 1)))), none, none], [], M) := fun l1 l2 h1 => by
            rw [xfix_unf, sX12_tips_161]
            simp (disch := omega) only [xk_none, xk_inl, xk_inr, xk_ite, xri_v, xrl_v, xrv_v, xb_z0, xb_z1, xb_b2, if_true, if_false, ite_true, ite_false, iZ_lit, iZ_m1, iZ_m99, iZ_m8, iZ_add, iZ_sub, iZ_mul, iZ_neg, nz0, nzi, iZ_lt, iZ_le, iZ_inj, b2_z, b2_o, ite_bPz, ite_bPo, xb_bP, iZ_xin, if_pos, ite_self, ↓reduceIte, Int.reduceAdd, Int.reduceSub, Int.reduceMul, Int.reduceNeg, Int.reduceLT, Int.reduceLE, if_neg, nS, iZ_clampN, iZ_bit, iZ_one, iZ_and, iZ_or, iZ_ndn]
            by_cases d : hY < (y : Int)
            · rw [if_pos d, if_neg (by omega)]
            · rw [if_neg d, if_pos (by omega)]
          have e129 : ∀ (l1 : Nat), xfix gX12_tips (129, [some (.inr (.inr (12, 0))), some (.inl (iZ (heap))), some (.inl (iZ (fl))), some (.inl (iZ ((tN A heap i + 1)))), some (.inl (iZ ((tX A heap i + (2 * (x : Int) + 1))))), some (.inl (iZ ((tY A heap i + (2 * (y : Int) + 1))))), none, some (.inl (iZ (hX))), some (.inl (iZ (lY))), some (.inl (iZ (hY))), some (.inl (iZ (i))), some (.inl (iZ (x))), some (.inl (iZ (y)))], [.inl (iZ (l1))], M) = xfix gX12_tips (25, [some (.inr (.inr (12, 0))), some (.inl (iZ (heap))), some (.inl (iZ (fl))), some (.inl (iZ ((tN A heap i + 1)))), some (.inl (iZ ((tX A heap i + (2 * (x : Int) + 1))))), some (.inl (iZ ((tY A heap i + (2 * (y : Int) + 1))))), some (.inl (iZ (l1))), some (.inl (iZ ((if hX < (x : Int) then (x : Int) else hX)))), some (.inl (iZ (((if y < lY then y else lY : Nat))))), some (.inl (iZ ((if hY < (y : Int) then (y : Int) else hY)))), some (.inl (iZ (((i : Int) + 1)))), none, none], [], M) := fun l1 => by
            rw [xfix_unf, sX12_tips_129]
            simp (disch := omega) only [xk_none, xk_inl, xk_inr, xk_ite, xri_v, xrl_v, xrv_v, xb_z0, xb_z1, xb_b2, if_true, if_false, ite_true, ite_false, iZ_lit, iZ_m1, iZ_m99, iZ_m8, iZ_add, iZ_sub, iZ_mul, iZ_neg, nz0, nzi, iZ_lt, iZ_le, iZ_inj, b2_z, b2_o, ite_bPz, ite_bPo, xb_bP, iZ_xin, if_pos, ite_self, ↓reduceIte, Int.reduceAdd, Int.reduceSub, Int.reduceMul, Int.reduceNeg, Int.reduceLT, Int.reduceLE, if_neg, nS, iZ_clampN, iZ_bit, iZ_one, iZ_and, iZ_or, iZ_ndn, e161]
            by_cases d : hX < (x : Int)
            · by_cases d2 : y < lY
              · rw [if_pos d, if_neg (by omega), if_pos d2, if_neg (by omega)]
              · rw [if_pos d, if_neg (by omega), if_neg d2, if_pos (by omega)]
            · by_cases d2 : y < lY
              · rw [if_neg d, if_pos (by omega), if_pos d2, if_neg (by omega)]
              · rw [if_neg d, if_pos (by omega), if_neg d2, if_pos (by omega)]
          simp (disch := omega) only [xk_none, xk_inl, xk_inr, xk_ite, xri_v, xrl_v, xrv_v, xb_z0, xb_z1, xb_b2, if_true, if_false, ite_true, ite_false, iZ_lit, iZ_m1, iZ_m99, iZ_m8, iZ_add, iZ_sub, iZ_mul, iZ_neg, nz0, nzi, iZ_lt, iZ_le, iZ_inj, b2_z, b2_o, ite_bPz, ite_bPo, xb_bP, iZ_xin, if_pos, ite_self, ↓reduceIte, Int.reduceAdd, Int.reduceSub, Int.reduceMul, Int.reduceNeg, Int.reduceLT, Int.reduceLE, if_neg, nS, iZ_clampN, iZ_bit, iZ_one, iZ_and, iZ_or, iZ_ndn, e129]
          by_cases d : x < lX
          · rw [if_pos d, if_neg (by omega)]
          · rw [if_neg d, if_pos (by omega)]
        · rw [if_neg c3, onX_no (fun z => c3 z.2), onY_no (fun z => c3 z.2)]
      · have n1 := fun z => c2 ((inH_iff (heap := heap) hp).mp z)
        rw [if_neg c2, if_neg n1, if_neg n1, if_neg n1, onX_no (fun z => n1 z.1), onY_no (fun z => n1 z.1), Int.add_zero, Int.add_zero, Int.add_zero])
  refine Eq.trans ?_ (hl.trans ?_)
  · have e0 : onX A heap fl 0 = fun _ => False := funext fun x => propext ⟨fun ⟨c, a, _⟩ => by omega, False.elim⟩
    have e1 : onY A heap fl 0 = fun _ => False := funext fun x => propext ⟨fun ⟨c, a, _⟩ => by omega, False.elim⟩
    have e2 : lst (fun _ => False) 8 = 8 := lst_eq (Nat.le_refl _) (fun _ _ z => z) (fun z => by omega)
    have e3 : hst (fun _ => False) 8 = -1 := by simp [hst]
    rw [e0, e1, e2, e3]
    rfl
  · have b1 := tN_b A heap (i := 512) (by omega)
    have b2 := tX_b A heap (i := 512) (by omega)
    have b3 := tY_b A heap (i := 512) (by omega)
    have b4 := lst_le (onX A heap fl 512) 8
    have b5 := lst_le (onY A heap fl 512) 8
    have b6 := hst_rng (onX A heap fl 512) 8
    have b7 := hst_rng (onY A heap fl 512) 8
    unfold tps fls
    generalize tN A heap 512 = n at *
    generalize tX A heap 512 = x at *
    generalize tY A heap 512 = y at *
    generalize lst (onX A heap fl 512) 8 = lX at *
    generalize lst (onY A heap fl 512) 8 = lY at *
    generalize hst (onX A heap fl 512) 8 = hX at *
    generalize hst (onY A heap fl 512) 8 = hY at *
    have c1 := mul_b (a := 2 * n) (b := lX) (m := 1024) (n := 8) (by omega) (by omega)
    have c2 := mul_b (a := 2 * n) (b := lY) (m := 1024) (n := 8) (by omega) (by omega)
    have c3 := mul_b (a := 2 * n) (b := hX + 1) (m := 1024) (n := 8) (by omega) (by omega)
    have c4 := mul_b (a := 2 * n) (b := hY + 1) (m := 1024) (n := 8) (by omega) (by omega)
    generalize k1 : 2 * n * (lX : Int) = q1 at *
    generalize k2 : 2 * n * (lY : Int) = q2 at *
    generalize k3 : 2 * n * (hX + 1) = q3 at *
    generalize k4 : 2 * n * (hY + 1) = q4 at *
    rw [xfix_unf, sX12_tips_25]
    have e512 : ((512 : Nat) : Int) = 512 := rfl
    simp (disch := omega) only [xk_none, xk_inl, xk_inr, xk_ite, xri_v, xrl_v, xrv_v, xb_z0, xb_z1, xb_b2, if_true, if_false, ite_true, ite_false, iZ_lit, iZ_m1, iZ_m99, iZ_m8, iZ_add, iZ_sub, iZ_mul, iZ_neg, nz0, nzi, iZ_lt, iZ_le, iZ_inj, b2_z, b2_o, ite_bPz, ite_bPo, xb_bP, iZ_xin, if_pos, ite_self, ↓reduceIte, Int.reduceAdd, Int.reduceSub, Int.reduceMul, Int.reduceNeg, Int.reduceLT, Int.reduceLE, if_neg, k1, k2, k3, k4, e512]
    (repeat' split) <;> first | (rw [bP_t (by omega)]) | (rw [bP_f (by omega)])
