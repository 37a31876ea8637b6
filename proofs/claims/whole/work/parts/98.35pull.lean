/-! the class: the least pull -/
def uax (s : Nat) : Nat := if s / 2 = 0 then 1 else 0
def vax (s : Nat) : Nat := if s / 2 = 2 then 1 else 2
def kof (s c : Nat) : Nat := if s % 2 = 0 then 7 - alg c (s / 2) else alg c (s / 2)
theorem six3 {s : Nat} (h : s < 6) : s / 2 = 0 ∨ s / 2 = 1 ∨ s / 2 = 2 := by omega
theorem lnc_of {s c : Nat} (hs : s < 6) (hc : c < 512) : lnc s (alg c (uax s)) (alg c (vax s)) (kof s c) = c := by
  unfold lnc kof uax vax
  rcases six3 hs with e | e | e <;> rw [e] <;> by_cases p : s % 2 = 0 <;> simp only [p, if_pos, if_neg] <;> simp [alg] <;> omega
theorem alg_lnc {s u v k : Nat} (hs : s < 6) (hu : u < 8) (hv : v < 8) (hk : k < 8) : alg (lnc s u v k) (uax s) = u ∧ alg (lnc s u v k) (vax s) = v ∧ kof s (lnc s u v k) = k := by
  unfold lnc kof uax vax
  rcases six3 hs with e | e | e <;> rw [e] <;> by_cases p : s % 2 = 0 <;> simp only [p, if_pos, if_neg] <;> simp [alg] <;> omega
theorem kof_lt {s c : Nat} (hc : c < 512) : kof s c < 8 := by
  unfold kof
  have := alg_lt hc (s / 2)
  split <;> omega
theorem kof_near {s c : Nat} (hc : c < 512) : sgn s * (alg c (s / 2) : Int) = (if s % 2 = 0 then 7 else 0) - (kof s c : Int) := by
  unfold kof sgn
  have := alg_lt hc (s / 2)
  split <;> omega
/-- both cross axes: in the reference's order and the class's -/
theorem ax_both {s : Nat} (hs : s < 6) {P : Nat → Prop} : (P ((s / 2 + 1) % 3) ∧ P ((s / 2 + 2) % 3)) ↔ (P (uax s) ∧ P (vax s)) := by
  unfold uax vax
  rcases six3 hs with e | e | e <;> rw [e] <;> simp
  exact And.comm
/-- clear, told by lines -/
def clL (f g : Nat → Bool) (s w : Nat) (d : Nat) : Prop := ∀ l l', l < 64 → l' < 64 → ((l % 8 : Nat) : Int) + d * stp w (uax s) = (l' % 8 : Nat) → ((l / 8 : Nat) : Int) + d * stp w (vax s) = (l' / 8 : Nat) → frK f s l < 8 → frK g s l' < 8 → (frK f s l : Int) ≤ frK g s l' + sgn s * (d * stp w (s / 2))
theorem clr_L {A : dA} {f g : Nat → Bool} {half rest w d s : Nat} (hs : s < 6) (hf : ∀ c, c < 512 → (f c = true ↔ inH A half c)) (hg : ∀ c, c < 512 → (g c = true ↔ inH A rest c)) : clr A half rest w d s ↔ clL f g s w d := by
  have sg : sgn s = 1 ∨ sgn s = -1 := by unfold sgn; split <;> omega
  have dist : ∀ a b : Int, sgn s * (a + b) = sgn s * a + sgn s * b := fun a b => Int.mul_add _ _ _
  constructor
  · intro h l l' hl hl' eu ev hF hG
    have u8 : l % 8 < 8 := by omega
    have v8 : l / 8 < 8 := by omega
    have u8' : l' % 8 < 8 := by omega
    have v8' : l' / 8 < 8 := by omega
    obtain ⟨a1, a2, a3⟩ := alg_lnc hs u8 v8 hF
    obtain ⟨b1, b2, b3⟩ := alg_lnc hs u8' v8' hG
    have cl := lnc_lt (w := s) u8 v8 hF
    have ol := lnc_lt (w := s) u8' v8' hG
    have q1 := lst_is (fun k => f (lnc s (l % 8) (l / 8) k) = true) 8 hF
    have q2 := lst_is (fun k => g (lnc s (l' % 8) (l' / 8) k) = true) 8 hG
    have n1 : ∀ k, k < frK f s l → ¬ f (lnc s (l % 8) (l / 8) k) = true := fun k hk => lst_no (fun k => f (lnc s (l % 8) (l / 8) k) = true) 8 k hk
    have q1' : inH A half (lnc s (l % 8) (l / 8) (frK f s l)) := (hf _ cl).mp q1
    have q2' : inH A rest (lnc s (l' % 8) (l' / 8) (frK g s l')) := (hg _ ol).mp q2
    have nh := h _ cl q1'
    refine Classical.byContradiction fun no => nh ⟨fun o ho z => ?_, _, ol, q2', ?_⟩
    · obtain ⟨z1, z2, z3, z4⟩ := z
      obtain ⟨y1, y2⟩ := (ax_both hs (P := fun a => alg o a = alg (lnc s (l % 8) (l / 8) (frK f s l)) a)).mp ⟨z2, z3⟩
      rw [a1] at y1
      rw [a2] at y2
      rw [kof_near cl, kof_near ho, a3] at z4
      have := n1 (kof s o) (by omega)
      rw [← y1, ← y2, lnc_of hs ho] at this
      exact this ((hf o ho).mpr z1)
    · have both := (ax_both hs (P := fun a => (alg (lnc s (l' % 8) (l' / 8) (frK g s l')) a : Int) = alg (lnc s (l % 8) (l / 8) (frK f s l)) a + d * stp w a)).mpr ⟨by rw [a1, b1]; omega, by rw [a2, b2]; omega⟩
      refine ⟨both.1, both.2, ?_⟩
      rw [dist, kof_near cl, kof_near ol, a3, b3]
      generalize sgn s * (↑d * stp w (s / 2)) = nr at *
      omega
  · intro h c hc ih hd
    obtain ⟨d1, o, ho, d2, d3, d4, d5⟩ := hd
    obtain ⟨e1, e2⟩ := (ax_both hs (P := fun a => (alg o a : Int) = alg c a + d * stp w a)).mp ⟨d3, d4⟩
    have cu := alg_lt hc (uax s)
    have cv' := alg_lt hc (vax s)
    have ou := alg_lt ho (uax s)
    have ov := alg_lt ho (vax s)
    have kc := kof_lt (s := s) hc
    have ko := kof_lt (s := s) ho
    have lc := lnc_of hs hc
    have lo := lnc_of hs ho
    have m1 : (8 * alg c (vax s) + alg c (uax s)) % 8 = alg c (uax s) := by omega
    have m2 : (8 * alg c (vax s) + alg c (uax s)) / 8 = alg c (vax s) := by omega
    have m3 : (8 * alg o (vax s) + alg o (uax s)) % 8 = alg o (uax s) := by omega
    have m4 : (8 * alg o (vax s) + alg o (uax s)) / 8 = alg o (vax s) := by omega
    have F : frK f s (8 * alg c (vax s) + alg c (uax s)) = kof s c := by
      unfold frK
      rw [m1, m2]
      refine lst_eq (by omega) (fun k hk z => ?_) (fun _ => by rw [lc]; exact (hf c hc).mpr ih)
      have k8 : k < 8 := by omega
      have kl := lnc_lt (w := s) cu cv' k8
      obtain ⟨a1, a2, a3⟩ := alg_lnc hs cu cv' k8
      obtain ⟨b1, b2⟩ := (ax_both hs (P := fun a => alg (lnc s (alg c (uax s)) (alg c (vax s)) k) a = alg c a)).mpr ⟨a1, a2⟩
      refine d1 _ kl ⟨(hf _ kl).mp z, b1, b2, ?_⟩
      rw [kof_near hc, kof_near kl, a3]
      omega
    have G : frK g s (8 * alg o (vax s) + alg o (uax s)) ≤ kof s o := by
      refine Classical.byContradiction fun z => ?_
      have := lst_no (fun k => g (lnc s ((8 * alg o (vax s) + alg o (uax s)) % 8) ((8 * alg o (vax s) + alg o (uax s)) / 8) k) = true) 8 (kof s o) (by show kof s o < frK g s (8 * alg o (vax s) + alg o (uax s)); omega)
      simp only [m3, m4, lo] at this
      exact this ((hg o ho).mpr d2)
    have := h (8 * alg c (vax s) + alg c (uax s)) (8 * alg o (vax s) + alg o (uax s)) (by omega) (by omega) (by rw [m1, m3]; omega) (by rw [m2, m4]; omega) (by omega) (by omega)
    rw [F] at this
    rw [dist, kof_near hc, kof_near ho] at d5
    generalize sgn s * (↑d * stp w (s / 2)) = nr at *
    omega
/-- clear as the class asks it -/
def clC (f g : Nat → Bool) (s w : Nat) (d : Nat) : Prop := ∀ l', l' < 64 → ∀ l, l < 64 → ((l % 8 : Nat) : Int) + d * stp w (uax s) = (l' % 8 : Nat) → ((l / 8 : Nat) : Int) + d * stp w (vax s) = (l' / 8 : Nat) → frK f s l < 8 → frK g s l' < 8 → (frK f s l : Int) ≤ frK g s l' + sgn s * (d * stp w (s / 2))
theorem frK_le (f : Nat → Bool) (s l : Nat) : frK f s l ≤ 8 := lst_le _ 8
theorem lsI_0 {p : Nat → Prop} {n : Nat} (hn : 0 < n) (h : p 0) : lsI p n = 0 := by
  unfold lsI
  rw [lst_eq (k := 0) (by omega) (fun i hi => by omega) (fun _ => h), if_pos hn]
  rfl
theorem clC_ls {f g : Nat → Bool} {s w : Nat} (hs : s < 6) (hw : w < 6) : lsI (clC f g s w) 17 = lsI (clL f g s w) 17 := by
  exact lsI_cg fun d _ => ⟨fun h l l' hl hl' eu ev => h l' hl' l hl eu ev, fun h l' hl' l hl eu ev => h l l' hl hl' eu ev⟩
theorem x_frontOfHalf {M : xM} {u v : Int} (hu : -100 ≤ u ∧ u ≤ 100) (hv : -100 ≤ v ∧ v ≤ 100) : fX7_frontOfHalf [.inr (.inr (7, 0)), .inl (iZ (u)), .inl (iZ (v))] M = some (some (.inl (if 0 ≤ u ∧ u < 8 ∧ 0 ≤ v ∧ v < 8 then xI M (45, 0) (8 * v + u).toNat else iZ (-1))), M) := by
  have t25 : xfix gX7_frontOfHalf (25, [some (.inr (.inr (7, 0))), some (.inl (iZ (u))), some (.inl (iZ (v))), none], [.inl (bP (0 ≤ u ∧ u < 8 ∧ 0 ≤ v ∧ v < 8))], M) = some (some (.inl (if 0 ≤ u ∧ u < 8 ∧ 0 ≤ v ∧ v < 8 then xI M (45, 0) (8 * v + u).toNat else iZ (-1))), M) := by
    by_cases z : 0 ≤ u ∧ u < 8 ∧ 0 ≤ v ∧ v < 8
    · rw [bP_t z, if_pos z]
      obtain ⟨z1, z2, z3, z4⟩ := z
      obtain ⟨U, rfl⟩ : ∃ U : Nat, u = U := ⟨u.toNat, by omega⟩
      obtain ⟨V, rfl⟩ : ∃ V : Nat, v = V := ⟨v.toNat, by omega⟩
      have e : (8 * (V : Int) + (U : Int)) = ((8 * V + U : Nat) : Int) := by omega
      have e2 : ((8 * V + U : Nat) : Int).toNat = 8 * V + U := by omega
      have hl : 8 * V + U < 64 := by omega
      rw [e, e2]
      generalize 8 * V + U = x at *
      rw [xfix_unf, sX7_frontOfHalf_25]
      simp (disch := omega) only [xk_none, xk_inl, xk_inr, xk_ite, xri_v, xrl_v, xrv_v, xb_z0, xb_z1, xb_b2, if_true, if_false, ite_true, ite_false, iZ_lit, iZ_m1, iZ_m99, iZ_m8, iZ_add, iZ_sub, iZ_mul, iZ_neg, nz0, nzi, iZ_lt, iZ_le, iZ_inj, b2_z, b2_o, ite_bPz, ite_bPo, xb_bP, iZ_xin, if_pos, ite_self, ↓reduceIte, Int.reduceAdd, Int.reduceSub, Int.reduceMul, Int.reduceNeg, Int.reduceLT, Int.reduceLE, if_neg, e, iZ_clampN]
    · rw [bP_f z, if_neg z]
      rw [xfix_unf, sX7_frontOfHalf_25]
      simp (disch := omega) only [xk_none, xk_inl, xk_inr, xk_ite, xri_v, xrl_v, xrv_v, xb_z0, xb_z1, xb_b2, if_true, if_false, ite_true, ite_false, iZ_lit, iZ_m1, iZ_m99, iZ_m8, iZ_add, iZ_sub, iZ_mul, iZ_neg, nz0, nzi, iZ_lt, iZ_le, iZ_inj, b2_z, b2_o, ite_bPz, ite_bPo, xb_bP, iZ_xin, if_pos, ite_self, ↓reduceIte, Int.reduceAdd, Int.reduceSub, Int.reduceMul, Int.reduceNeg, Int.reduceLT, Int.reduceLE, if_neg]
  rw [← t25]
  show xfix gX7_frontOfHalf (0, [some (.inr (.inr (7, 0))), some (.inl (iZ (u))), some (.inl (iZ (v))), none], [], M) = _; rw [xfix_unf, sX7_frontOfHalf_0]
  simp (disch := omega) only [xk_none, xk_inl, xk_inr, xk_ite, xri_v, xrl_v, xrv_v, xb_z0, xb_z1, xb_b2, if_true, if_false, ite_true, ite_false, iZ_lit, iZ_m1, iZ_m99, iZ_m8, iZ_add, iZ_sub, iZ_mul, iZ_neg, nz0, nzi, iZ_lt, iZ_le, iZ_inj, b2_z, b2_o, ite_bPz, ite_bPo, xb_bP, iZ_xin, if_pos, ite_self, ↓reduceIte, Int.reduceAdd, Int.reduceSub, Int.reduceMul, Int.reduceNeg, Int.reduceLT, Int.reduceLE, if_neg]
  (repeat' split) <;> first | (rw [bP_t (by omega)]) | (rw [bP_f (by omega)])

theorem x_isClear {M : xM} {f g : Nat → Bool} {w s d : Nat} (hw : w < 6) (hs : s < 6) (hd : d < 17) (hF : ∀ l, l < 64 → xI M (45, 0) l = iZ (7 - (frK f s l : Int)) ∧ xI M (45, 1) l = iZ (7 - (frK g s l : Int))) : fX7_isClear [.inr (.inr (7, 0)), .inl (iZ (w)), .inl (iZ (s)), .inl (iZ (((d : Int) * (if w % 2 = 0 then 1 else -1))))] M = some (some (.inl (bP (clC f g s w d))), M) := by
  have hAw := x_axisOf (M := M) (w := w) (by omega)
  have hAs := x_axisOf (M := M) (w := s) (by omega)
  have hSs := x_signOf (M := M) (w := s) (by omega)
  have wb3 : w / 2 < 3 := by omega
  have sb3 : s / 2 < 3 := by omega
  obtain ⟨sh, esh⟩ : ∃ sh : Int, sh = (d : Int) * (if w % 2 = 0 then 1 else -1) := ⟨_, rfl⟩
  have shb : -16 ≤ sh ∧ sh ≤ 16 := by rw [esh]; split <;> omega
  have du : (d : Int) * stp w (uax s) = if w / 2 = uax s then sh else 0 := by
    rw [stp_ax hw (by unfold uax; split <;> omega), esh]
    by_cases e : w / 2 = uax s
    · rw [if_pos e, if_pos e.symm]
    · rw [if_neg e, if_neg (fun z => e z.symm)]; omega
  have dv : (d : Int) * stp w (vax s) = if w / 2 = vax s then sh else 0 := by
    rw [stp_ax hw (by unfold vax; split <;> omega), esh]
    by_cases e : w / 2 = vax s
    · rw [if_pos e, if_pos e.symm]
    · rw [if_neg e, if_neg (fun z => e z.symm)]; omega
  have dn : (d : Int) * stp w (s / 2) = if w / 2 = s / 2 then sh else 0 := by
    rw [stp_ax hw (by omega : s / 2 < 3), esh]
    by_cases e : w / 2 = s / 2
    · rw [if_pos e, if_pos e.symm]
    · rw [if_neg e, if_neg (fun z => e z.symm)]; omega
  obtain ⟨U, eU⟩ : ∃ U : Int, U = (d : Int) * stp w (uax s) := ⟨_, rfl⟩
  obtain ⟨V, eV⟩ : ∃ V : Int, V = (d : Int) * stp w (vax s) := ⟨_, rfl⟩
  obtain ⟨N, eN⟩ : ∃ N : Int, N = sgn s * ((d : Int) * stp w (s / 2)) := ⟨_, rfl⟩
  have Ub : -16 ≤ U ∧ U ≤ 16 := by rw [eU, du]; split <;> omega
  have Vb : -16 ≤ V ∧ V ≤ 16 := by rw [eV, dv]; split <;> omega
  have Nb : -16 ≤ N ∧ N ≤ 16 := by rw [eN, dn]; unfold sgn; split <;> split <;> omega
  have loop := xfor_all (sg := gX7_isClear) (st := fun i => (98, [some (.inr (.inr (7, 0))), none, none, none, none, none, some (.inl (iZ (U))), some (.inl (iZ (V))), some (.inl (iZ (N))), some (.inl (iZ (i))), none, none], [], M)) (R := fun i => some (some (.inl (bP (∀ l', i ≤ l' → l' < 64 → ∀ l, l < 64 → ((l % 8 : Nat) : Int) + U = (l' % 8 : Nat) → ((l / 8 : Nat) : Int) + V = (l' / 8 : Nat) → frK f s l < 8 → frK g s l' < 8 → (frK f s l : Int) ≤ frK g s l' + N))), M)) (n := 64) (fun i hi ih => by
    rw [all_from hi]
    rw [nS] at ih
    have m8 : (i : Int) - (i : Int) / 8 * 8 = ((i % 8 : Nat) : Int) := by omega
    have d8 : (i : Int) / 8 = ((i / 8 : Nat) : Int) := by omega
    have dv := iZ_div (a := (i : Int)) (b := 8) (by omega) (by omega)
    have m8' : (i : Int) - ((i / 8 : Nat) : Int) * 8 = ((i % 8 : Nat) : Int) := by omega
    have hfr := x_frontOfHalf (M := M) (u := ((i % 8 : Nat) : Int) - U) (v := ((i / 8 : Nat) : Int) - V) (by omega) (by omega)
    obtain ⟨_, rI⟩ := hF i hi
    have gl := frK_le g s i
    by_cases inn : 0 ≤ ((i % 8 : Nat) : Int) - U ∧ ((i % 8 : Nat) : Int) - U < 8 ∧ 0 ≤ ((i / 8 : Nat) : Int) - V ∧ ((i / 8 : Nat) : Int) - V < 8
    · rw [if_pos inn] at hfr
      obtain ⟨L, eL⟩ : ∃ L : Nat, L = (8 * (((i / 8 : Nat) : Int) - V) + (((i % 8 : Nat) : Int) - U)).toNat := ⟨_, rfl⟩
      have L1 : ((L % 8 : Nat) : Int) + U = (i % 8 : Nat) := by omega
      have L2 : ((L / 8 : Nat) : Int) + V = (i / 8 : Nat) := by omega
      have L64 : L < 64 := by omega
      rw [← eL, (hF L L64).1] at hfr
      have fl := frK_le f s L
      have one : (∀ l, l < 64 → ((l % 8 : Nat) : Int) + U = (i % 8 : Nat) → ((l / 8 : Nat) : Int) + V = (i / 8 : Nat) → frK f s l < 8 → frK g s i < 8 → (frK f s l : Int) ≤ frK g s i + N) ↔ (frK f s L < 8 → frK g s i < 8 → (frK f s L : Int) ≤ frK g s i + N) := by
        constructor
        · intro h; exact h L L64 L1 L2
        · intro h l hl e1 e2
          have : l = L := by omega
          subst this; exact h
      rw [one]
      clear one inn eL L1 L2 eU eV eN du dn
      generalize frK f s L = a at *
      generalize frK g s i = b at *
      generalize i / 8 = iv at *
      generalize i % 8 = iu at *
      by_cases y : a < 8
      · by_cases yb : b < 8
        · by_cases y2 : (a : Int) ≤ b + N
          · rw [xfix_unf, sX7_isClear_98]
            simp (disch := omega) only [xk_none, xk_inl, xk_inr, xk_ite, xri_v, xrl_v, xrv_v, xb_z0, xb_z1, xb_b2, if_true, if_false, ite_true, ite_false, iZ_lit, iZ_m1, iZ_m99, iZ_m8, iZ_add, iZ_sub, iZ_mul, iZ_neg, nz0, nzi, iZ_lt, iZ_le, iZ_inj, b2_z, b2_o, ite_bPz, ite_bPo, xb_bP, iZ_xin, if_pos, ite_self, ↓reduceIte, Int.reduceAdd, Int.reduceSub, Int.reduceMul, Int.reduceNeg, Int.reduceLT, Int.reduceLE, if_neg, dv, m8, m8', d8, ↓xri_some hfr, iZ_clampN, rI]
            rw [xfix_unf, sX7_isClear_149]
            simp (disch := omega) only [xk_none, xk_inl, xk_inr, xk_ite, xri_v, xrl_v, xrv_v, xb_z0, xb_z1, xb_b2, if_true, if_false, ite_true, ite_false, iZ_lit, iZ_m1, iZ_m99, iZ_m8, iZ_add, iZ_sub, iZ_mul, iZ_neg, nz0, nzi, iZ_lt, iZ_le, iZ_inj, b2_z, b2_o, ite_bPz, ite_bPo, xb_bP, iZ_xin, if_pos, ite_self, ↓reduceIte, Int.reduceAdd, Int.reduceSub, Int.reduceMul, Int.reduceNeg, Int.reduceLT, Int.reduceLE, if_neg, iZ_clampN, rI, ih]
            exact rP ⟨fun z => ⟨fun _ _ => y2, z⟩, fun z => z.2⟩
          · rw [bP_f (fun z => y2 (z.1 y yb))]
            rw [xfix_unf, sX7_isClear_98]
            simp (disch := omega) only [xk_none, xk_inl, xk_inr, xk_ite, xri_v, xrl_v, xrv_v, xb_z0, xb_z1, xb_b2, if_true, if_false, ite_true, ite_false, iZ_lit, iZ_m1, iZ_m99, iZ_m8, iZ_add, iZ_sub, iZ_mul, iZ_neg, nz0, nzi, iZ_lt, iZ_le, iZ_inj, b2_z, b2_o, ite_bPz, ite_bPo, xb_bP, iZ_xin, if_pos, ite_self, ↓reduceIte, Int.reduceAdd, Int.reduceSub, Int.reduceMul, Int.reduceNeg, Int.reduceLT, Int.reduceLE, if_neg, dv, m8, m8', d8, ↓xri_some hfr, iZ_clampN, rI]
            rw [xfix_unf, sX7_isClear_149]
            simp (disch := omega) only [xk_none, xk_inl, xk_inr, xk_ite, xri_v, xrl_v, xrv_v, xb_z0, xb_z1, xb_b2, if_true, if_false, ite_true, ite_false, iZ_lit, iZ_m1, iZ_m99, iZ_m8, iZ_add, iZ_sub, iZ_mul, iZ_neg, nz0, nzi, iZ_lt, iZ_le, iZ_inj, b2_z, b2_o, ite_bPz, ite_bPo, xb_bP, iZ_xin, if_pos, ite_self, ↓reduceIte, Int.reduceAdd, Int.reduceSub, Int.reduceMul, Int.reduceNeg, Int.reduceLT, Int.reduceLE, if_neg, iZ_clampN, rI, ih]
        · have y3 : b = 8 := by omega
          subst y3
          have e8 : (7 : Int) - ((8 : Nat) : Int) = -1 := rfl
          rw [e8] at rI
          rw [xfix_unf, sX7_isClear_98]
          simp (disch := omega) only [xk_none, xk_inl, xk_inr, xk_ite, xri_v, xrl_v, xrv_v, xb_z0, xb_z1, xb_b2, if_true, if_false, ite_true, ite_false, iZ_lit, iZ_m1, iZ_m99, iZ_m8, iZ_add, iZ_sub, iZ_mul, iZ_neg, nz0, nzi, iZ_lt, iZ_le, iZ_inj, b2_z, b2_o, ite_bPz, ite_bPo, xb_bP, iZ_xin, if_pos, ite_self, ↓reduceIte, Int.reduceAdd, Int.reduceSub, Int.reduceMul, Int.reduceNeg, Int.reduceLT, Int.reduceLE, if_neg, dv, m8, m8', d8, ↓xri_some hfr, iZ_clampN, rI]
          rw [xfix_unf, sX7_isClear_149]
          simp (disch := omega) only [xk_none, xk_inl, xk_inr, xk_ite, xri_v, xrl_v, xrv_v, xb_z0, xb_z1, xb_b2, if_true, if_false, ite_true, ite_false, iZ_lit, iZ_m1, iZ_m99, iZ_m8, iZ_add, iZ_sub, iZ_mul, iZ_neg, nz0, nzi, iZ_lt, iZ_le, iZ_inj, b2_z, b2_o, ite_bPz, ite_bPo, xb_bP, iZ_xin, if_pos, ite_self, ↓reduceIte, Int.reduceAdd, Int.reduceSub, Int.reduceMul, Int.reduceNeg, Int.reduceLT, Int.reduceLE, if_neg, ih]
          exact rP ⟨fun z => ⟨fun _ y => by omega, z⟩, fun z => z.2⟩
      · have y3 : a = 8 := by omega
        subst y3
        have e8 : (7 : Int) - ((8 : Nat) : Int) = -1 := rfl
        rw [e8] at hfr
        rw [xfix_unf, sX7_isClear_98]
        simp (disch := omega) only [xk_none, xk_inl, xk_inr, xk_ite, xri_v, xrl_v, xrv_v, xb_z0, xb_z1, xb_b2, if_true, if_false, ite_true, ite_false, iZ_lit, iZ_m1, iZ_m99, iZ_m8, iZ_add, iZ_sub, iZ_mul, iZ_neg, nz0, nzi, iZ_lt, iZ_le, iZ_inj, b2_z, b2_o, ite_bPz, ite_bPo, xb_bP, iZ_xin, if_pos, ite_self, ↓reduceIte, Int.reduceAdd, Int.reduceSub, Int.reduceMul, Int.reduceNeg, Int.reduceLT, Int.reduceLE, if_neg, dv, m8, m8', d8, ↓xri_some hfr, iZ_clampN, rI]
        rw [xfix_unf, sX7_isClear_149]
        simp (disch := omega) only [xk_none, xk_inl, xk_inr, xk_ite, xri_v, xrl_v, xrv_v, xb_z0, xb_z1, xb_b2, if_true, if_false, ite_true, ite_false, iZ_lit, iZ_m1, iZ_m99, iZ_m8, iZ_add, iZ_sub, iZ_mul, iZ_neg, nz0, nzi, iZ_lt, iZ_le, iZ_inj, b2_z, b2_o, ite_bPz, ite_bPo, xb_bP, iZ_xin, if_pos, ite_self, ↓reduceIte, Int.reduceAdd, Int.reduceSub, Int.reduceMul, Int.reduceNeg, Int.reduceLT, Int.reduceLE, if_neg, ih]
        exact rP ⟨fun z => ⟨fun y => by omega, z⟩, fun z => z.2⟩
    · rw [if_neg inn] at hfr
      have one : ∀ l, l < 64 → ((l % 8 : Nat) : Int) + U = (i % 8 : Nat) → ((l / 8 : Nat) : Int) + V = (i / 8 : Nat) → frK f s l < 8 → frK g s i < 8 → (frK f s l : Int) ≤ frK g s i + N := fun l hl e1 e2 => absurd (by omega) inn
      have two : ∀ P Q : Prop, P → ((Q ↔ P ∧ Q)) := fun P Q p => ⟨fun q => ⟨p, q⟩, fun q => q.2⟩
      refine Eq.trans ?_ (rP (two _ _ one))
      clear one two inn eU eV eN du dn
      generalize i / 8 = iv at *
      generalize i % 8 = iu at *
      rw [xfix_unf, sX7_isClear_98]
      simp (disch := omega) only [xk_none, xk_inl, xk_inr, xk_ite, xri_v, xrl_v, xrv_v, xb_z0, xb_z1, xb_b2, if_true, if_false, ite_true, ite_false, iZ_lit, iZ_m1, iZ_m99, iZ_m8, iZ_add, iZ_sub, iZ_mul, iZ_neg, nz0, nzi, iZ_lt, iZ_le, iZ_inj, b2_z, b2_o, ite_bPz, ite_bPo, xb_bP, iZ_xin, if_pos, ite_self, ↓reduceIte, Int.reduceAdd, Int.reduceSub, Int.reduceMul, Int.reduceNeg, Int.reduceLT, Int.reduceLE, if_neg, dv, m8, m8', d8, ↓xri_some hfr, iZ_clampN, rI]
      rw [xfix_unf, sX7_isClear_149]
      simp (disch := omega) only [xk_none, xk_inl, xk_inr, xk_ite, xri_v, xrl_v, xrv_v, xb_z0, xb_z1, xb_b2, if_true, if_false, ite_true, ite_false, iZ_lit, iZ_m1, iZ_m99, iZ_m8, iZ_add, iZ_sub, iZ_mul, iZ_neg, nz0, nzi, iZ_lt, iZ_le, iZ_inj, b2_z, b2_o, ite_bPz, ite_bPo, xb_bP, iZ_xin, if_pos, ite_self, ↓reduceIte, Int.reduceAdd, Int.reduceSub, Int.reduceMul, Int.reduceNeg, Int.reduceLT, Int.reduceLE, if_neg, ih]) (by
    rw [bP_t (fun l' h1 h2 => by omega)]
    have e64 : ((64 : Nat) : Int) = 64 := rfl
    rw [e64]
    rw [xfix_unf, sX7_isClear_98]
    simp (disch := omega) only [xk_none, xk_inl, xk_inr, xk_ite, xri_v, xrl_v, xrv_v, xb_z0, xb_z1, xb_b2, if_true, if_false, ite_true, ite_false, iZ_lit, iZ_m1, iZ_m99, iZ_m8, iZ_add, iZ_sub, iZ_mul, iZ_neg, nz0, nzi, iZ_lt, iZ_le, iZ_inj, b2_z, b2_o, ite_bPz, ite_bPo, xb_bP, iZ_xin, if_pos, ite_self, ↓reduceIte, Int.reduceAdd, Int.reduceSub, Int.reduceMul, Int.reduceNeg, Int.reduceLT, Int.reduceLE, if_neg]) (i := 0) (by omega)
  have fin : (∀ l', 0 ≤ l' → l' < 64 → ∀ l, l < 64 → ((l % 8 : Nat) : Int) + U = (l' % 8 : Nat) → ((l / 8 : Nat) : Int) + V = (l' / 8 : Nat) → frK f s l < 8 → frK g s l' < 8 → (frK f s l : Int) ≤ frK g s l' + N) ↔ clC f g s w d := by
    unfold clC
    rw [← eU, ← eV, ← eN]
    exact ⟨fun h l' => h l' (by omega), fun h l' _ => h l'⟩
  have loop' := loop.trans (rP fin)
  refine Eq.trans ?_ loop'
  have t76 : xfix gX7_isClear (76, [some (.inr (.inr (7, 0))), none, some (.inl (iZ (s))), some (.inl (iZ (sh))), some (.inl (bP ((w / 2 = s / 2)))), none, some (.inl (iZ (U))), none, none, none, none, none], [.inl (iZ (V))], M) = xfix gX7_isClear (98, [some (.inr (.inr (7, 0))), none, none, none, none, none, some (.inl (iZ (U))), some (.inl (iZ (V))), some (.inl (iZ (N))), some (.inl (iZ (((0 : Nat) : Int)))), none, none], [], M) := by
    by_cases e : w / 2 = s / 2
    · rw [bP_t e]
      rw [if_pos e] at dn
      rw [dn] at eN
      have eN2 : sh * (if s % 2 = 0 then 1 else -1) = N := by rw [eN]; unfold sgn; exact Int.mul_comm _ _
      have sb : -1 ≤ (if s % 2 = 0 then (1 : Int) else -1) ∧ (if s % 2 = 0 then (1 : Int) else -1) ≤ 1 := by split <;> omega
      generalize (if s % 2 = 0 then (1 : Int) else -1) = S at *
      clear du dv dn eU eV eN esh
      rw [xfix_unf, sX7_isClear_76]
      simp (disch := omega) only [xk_none, xk_inl, xk_inr, xk_ite, xri_v, xrl_v, xrv_v, xb_z0, xb_z1, xb_b2, if_true, if_false, ite_true, ite_false, iZ_lit, iZ_m1, iZ_m99, iZ_m8, iZ_add, iZ_sub, iZ_mul, iZ_neg, nz0, nzi, iZ_lt, iZ_le, iZ_inj, b2_z, b2_o, ite_bPz, ite_bPo, xb_bP, iZ_xin, if_pos, ite_self, ↓reduceIte, Int.reduceAdd, Int.reduceSub, Int.reduceMul, Int.reduceNeg, Int.reduceLT, Int.reduceLE, if_neg, hSs, eN2]
      rfl
    · rw [bP_f e]
      rw [if_neg e] at dn
      rw [dn] at eN
      have N0 : N = 0 := by rw [eN]; omega
      rw [N0]
      rw [xfix_unf, sX7_isClear_76]
      simp (disch := omega) only [xk_none, xk_inl, xk_inr, xk_ite, xri_v, xrl_v, xrv_v, xb_z0, xb_z1, xb_b2, if_true, if_false, ite_true, ite_false, iZ_lit, iZ_m1, iZ_m99, iZ_m8, iZ_add, iZ_sub, iZ_mul, iZ_neg, nz0, nzi, iZ_lt, iZ_le, iZ_inj, b2_z, b2_o, ite_bPz, ite_bPo, xb_bP, iZ_xin, if_pos, ite_self, ↓reduceIte, Int.reduceAdd, Int.reduceSub, Int.reduceMul, Int.reduceNeg, Int.reduceLT, Int.reduceLE, if_neg]
      rfl
  rw [← t76]
  have t59 : xfix gX7_isClear (59, [some (.inr (.inr (7, 0))), none, some (.inl (iZ (s))), some (.inl (iZ (sh))), some (.inl (bP ((w / 2 = s / 2)))), some (.inl (bP ((w / 2 = uax s)))), none, none, none, none, none, none], [.inl (iZ (U))], M) = xfix gX7_isClear (76, [some (.inr (.inr (7, 0))), none, some (.inl (iZ (s))), some (.inl (iZ (sh))), some (.inl (bP ((w / 2 = s / 2)))), none, some (.inl (iZ (U))), none, none, none, none, none], [.inl (iZ (V))], M) := by
    have eV2 : V = if ¬ w / 2 = s / 2 ∧ ¬ w / 2 = uax s then sh else 0 := by
      rw [eV, dv]
      by_cases e : w / 2 = vax s
      · rw [if_pos e, if_pos (by unfold vax at e; unfold uax; split at e <;> split <;> omega)]
      · rw [if_neg e, if_neg (by unfold vax at e; unfold uax; split at e <;> split <;> omega)]
    by_cases e : w / 2 = s / 2
    · rw [bP_t e]
      rw [if_neg (fun z => z.1 e)] at eV2
      rw [eV2]
      rw [xfix_unf, sX7_isClear_59]
      simp (disch := omega) only [xk_none, xk_inl, xk_inr, xk_ite, xri_v, xrl_v, xrv_v, xb_z0, xb_z1, xb_b2, if_true, if_false, ite_true, ite_false, iZ_lit, iZ_m1, iZ_m99, iZ_m8, iZ_add, iZ_sub, iZ_mul, iZ_neg, nz0, nzi, iZ_lt, iZ_le, iZ_inj, b2_z, b2_o, ite_bPz, ite_bPo, xb_bP, iZ_xin, if_pos, ite_self, ↓reduceIte, Int.reduceAdd, Int.reduceSub, Int.reduceMul, Int.reduceNeg, Int.reduceLT, Int.reduceLE, if_neg]
    · rw [bP_f e]
      by_cases e2 : w / 2 = uax s
      · rw [bP_t e2]
        rw [if_neg (fun z => z.2 e2)] at eV2
        rw [eV2]
        rw [xfix_unf, sX7_isClear_59]
        simp (disch := omega) only [xk_none, xk_inl, xk_inr, xk_ite, xri_v, xrl_v, xrv_v, xb_z0, xb_z1, xb_b2, if_true, if_false, ite_true, ite_false, iZ_lit, iZ_m1, iZ_m99, iZ_m8, iZ_add, iZ_sub, iZ_mul, iZ_neg, nz0, nzi, iZ_lt, iZ_le, iZ_inj, b2_z, b2_o, ite_bPz, ite_bPo, xb_bP, iZ_xin, if_pos, ite_self, ↓reduceIte, Int.reduceAdd, Int.reduceSub, Int.reduceMul, Int.reduceNeg, Int.reduceLT, Int.reduceLE, if_neg]
      · rw [bP_f e2]
        rw [if_pos ⟨e, e2⟩] at eV2
        rw [eV2]
        rw [xfix_unf, sX7_isClear_59]
        simp (disch := omega) only [xk_none, xk_inl, xk_inr, xk_ite, xri_v, xrl_v, xrv_v, xb_z0, xb_z1, xb_b2, if_true, if_false, ite_true, ite_false, iZ_lit, iZ_m1, iZ_m99, iZ_m8, iZ_add, iZ_sub, iZ_mul, iZ_neg, nz0, nzi, iZ_lt, iZ_le, iZ_inj, b2_z, b2_o, ite_bPz, ite_bPo, xb_bP, iZ_xin, if_pos, ite_self, ↓reduceIte, Int.reduceAdd, Int.reduceSub, Int.reduceMul, Int.reduceNeg, Int.reduceLT, Int.reduceLE, if_neg]
  rw [← t59]
  have t42 : xfix gX7_isClear (42, [some (.inr (.inr (7, 0))), none, some (.inl (iZ (s))), some (.inl (iZ (sh))), some (.inl (bP ((w / 2 = s / 2)))), none, none, none, none, none, none, none], [.inl (bP (w / 2 = uax s))], M) = xfix gX7_isClear (59, [some (.inr (.inr (7, 0))), none, some (.inl (iZ (s))), some (.inl (iZ (sh))), some (.inl (bP ((w / 2 = s / 2)))), some (.inl (bP ((w / 2 = uax s)))), none, none, none, none, none, none], [.inl (iZ (U))], M) := by
    rw [du] at eU
    by_cases e : w / 2 = s / 2
    · have e2 : ¬ w / 2 = uax s := by unfold uax; split <;> omega
      rw [bP_t e, bP_f e2]
      rw [if_neg e2] at eU
      rw [eU]
      rw [xfix_unf, sX7_isClear_42]
      simp (disch := omega) only [xk_none, xk_inl, xk_inr, xk_ite, xri_v, xrl_v, xrv_v, xb_z0, xb_z1, xb_b2, if_true, if_false, ite_true, ite_false, iZ_lit, iZ_m1, iZ_m99, iZ_m8, iZ_add, iZ_sub, iZ_mul, iZ_neg, nz0, nzi, iZ_lt, iZ_le, iZ_inj, b2_z, b2_o, ite_bPz, ite_bPo, xb_bP, iZ_xin, if_pos, ite_self, ↓reduceIte, Int.reduceAdd, Int.reduceSub, Int.reduceMul, Int.reduceNeg, Int.reduceLT, Int.reduceLE, if_neg]
    · rw [bP_f e]
      by_cases e2 : w / 2 = uax s
      · rw [bP_t e2]
        rw [if_pos e2] at eU
        rw [eU]
        rw [xfix_unf, sX7_isClear_42]
        simp (disch := omega) only [xk_none, xk_inl, xk_inr, xk_ite, xri_v, xrl_v, xrv_v, xb_z0, xb_z1, xb_b2, if_true, if_false, ite_true, ite_false, iZ_lit, iZ_m1, iZ_m99, iZ_m8, iZ_add, iZ_sub, iZ_mul, iZ_neg, nz0, nzi, iZ_lt, iZ_le, iZ_inj, b2_z, b2_o, ite_bPz, ite_bPo, xb_bP, iZ_xin, if_pos, ite_self, ↓reduceIte, Int.reduceAdd, Int.reduceSub, Int.reduceMul, Int.reduceNeg, Int.reduceLT, Int.reduceLE, if_neg]
      · rw [bP_f e2]
        rw [if_neg e2] at eU
        rw [eU]
        rw [xfix_unf, sX7_isClear_42]
        simp (disch := omega) only [xk_none, xk_inl, xk_inr, xk_ite, xri_v, xrl_v, xrv_v, xb_z0, xb_z1, xb_b2, if_true, if_false, ite_true, ite_false, iZ_lit, iZ_m1, iZ_m99, iZ_m8, iZ_add, iZ_sub, iZ_mul, iZ_neg, nz0, nzi, iZ_lt, iZ_le, iZ_inj, b2_z, b2_o, ite_bPz, ite_bPo, xb_bP, iZ_xin, if_pos, ite_self, ↓reduceIte, Int.reduceAdd, Int.reduceSub, Int.reduceMul, Int.reduceNeg, Int.reduceLT, Int.reduceLE, if_neg]
  rw [← t42, ← esh]
  have t16 : xfix gX7_isClear (16, [some (.inr (.inr (7, 0))), some (.inl (iZ (w))), some (.inl (iZ (s))), some (.inl (iZ (sh))), none, none, none, none, none, none, none, none], [.inl (bP (w / 2 = s / 2))], M) = xfix gX7_isClear (42, [some (.inr (.inr (7, 0))), none, some (.inl (iZ (s))), some (.inl (iZ (sh))), some (.inl (bP ((w / 2 = s / 2)))), none, none, none, none, none, none, none], [.inl (bP (w / 2 = uax s))], M) := by
    clear t42 t59 t76 loop loop' fin eU eV eN du dv dn esh
    by_cases e : s / 2 = 0
    · have ea : (w / 2 = uax s) ↔ w / 2 = 1 := by unfold uax; rw [if_pos e]
      by_cases e1 : w / 2 = 1
      · rw [bP_t (ea.mpr e1)]
        rw [xfix_unf, sX7_isClear_16]
        simp (disch := omega) only [xk_none, xk_inl, xk_inr, xk_ite, xri_v, xrl_v, xrv_v, xb_z0, xb_z1, xb_b2, if_true, if_false, ite_true, ite_false, iZ_lit, iZ_m1, iZ_m99, iZ_m8, iZ_add, iZ_sub, iZ_mul, iZ_neg, nz0, nzi, iZ_lt, iZ_le, iZ_inj, b2_z, b2_o, ite_bPz, ite_bPo, xb_bP, iZ_xin, if_pos, ite_self, ↓reduceIte, Int.reduceAdd, Int.reduceSub, Int.reduceMul, Int.reduceNeg, Int.reduceLT, Int.reduceLE, if_neg, hAw, hAs, e, e1]
        try rfl
      · rw [bP_f (fun z => e1 (ea.mp z))]
        generalize w / 2 = ww at *
        rw [xfix_unf, sX7_isClear_16]
        simp (disch := omega) only [xk_none, xk_inl, xk_inr, xk_ite, xri_v, xrl_v, xrv_v, xb_z0, xb_z1, xb_b2, if_true, if_false, ite_true, ite_false, iZ_lit, iZ_m1, iZ_m99, iZ_m8, iZ_add, iZ_sub, iZ_mul, iZ_neg, nz0, nzi, iZ_lt, iZ_le, iZ_inj, b2_z, b2_o, ite_bPz, ite_bPo, xb_bP, iZ_xin, if_pos, ite_self, ↓reduceIte, Int.reduceAdd, Int.reduceSub, Int.reduceMul, Int.reduceNeg, Int.reduceLT, Int.reduceLE, if_neg, hAw, hAs, e]
        try rfl
    · have ea : (w / 2 = uax s) ↔ w / 2 = 0 := by unfold uax; rw [if_neg e]
      by_cases e1 : w / 2 = 0
      · rw [bP_t (ea.mpr e1)]
        generalize s / 2 = ss at *
        rw [xfix_unf, sX7_isClear_16]
        simp (disch := omega) only [xk_none, xk_inl, xk_inr, xk_ite, xri_v, xrl_v, xrv_v, xb_z0, xb_z1, xb_b2, if_true, if_false, ite_true, ite_false, iZ_lit, iZ_m1, iZ_m99, iZ_m8, iZ_add, iZ_sub, iZ_mul, iZ_neg, nz0, nzi, iZ_lt, iZ_le, iZ_inj, b2_z, b2_o, ite_bPz, ite_bPo, xb_bP, iZ_xin, if_pos, ite_self, ↓reduceIte, Int.reduceAdd, Int.reduceSub, Int.reduceMul, Int.reduceNeg, Int.reduceLT, Int.reduceLE, if_neg, hAw, hAs, e1]
        try rfl
      · rw [bP_f (fun z => e1 (ea.mp z))]
        generalize w / 2 = ww at *
        generalize s / 2 = ss at *
        rw [xfix_unf, sX7_isClear_16]
        simp (disch := omega) only [xk_none, xk_inl, xk_inr, xk_ite, xri_v, xrl_v, xrv_v, xb_z0, xb_z1, xb_b2, if_true, if_false, ite_true, ite_false, iZ_lit, iZ_m1, iZ_m99, iZ_m8, iZ_add, iZ_sub, iZ_mul, iZ_neg, nz0, nzi, iZ_lt, iZ_le, iZ_inj, b2_z, b2_o, ite_bPz, ite_bPo, xb_bP, iZ_xin, if_pos, ite_self, ↓reduceIte, Int.reduceAdd, Int.reduceSub, Int.reduceMul, Int.reduceNeg, Int.reduceLT, Int.reduceLE, if_neg, hAw, hAs]
        try rfl
  rw [← t16]
  clear t16 t42 t59 t76 loop loop' fin eU eV eN du dv dn esh
  show xfix gX7_isClear (0, [some (.inr (.inr (7, 0))), some (.inl (iZ (w))), some (.inl (iZ (s))), some (.inl (iZ (sh))), none, none, none, none, none, none, none, none], [], M) = _; rw [xfix_unf, sX7_isClear_0]
  by_cases e : w / 2 = s / 2
  · rw [bP_t e]
    simp (disch := omega) only [xk_none, xk_inl, xk_inr, xk_ite, xri_v, xrl_v, xrv_v, xb_z0, xb_z1, xb_b2, if_true, if_false, ite_true, ite_false, iZ_lit, iZ_m1, iZ_m99, iZ_m8, iZ_add, iZ_sub, iZ_mul, iZ_neg, nz0, nzi, iZ_lt, iZ_le, iZ_inj, b2_z, b2_o, ite_bPz, ite_bPo, xb_bP, iZ_xin, if_pos, ite_self, ↓reduceIte, Int.reduceAdd, Int.reduceSub, Int.reduceMul, Int.reduceNeg, Int.reduceLT, Int.reduceLE, if_neg, hAw, hAs, e]
  · rw [bP_f e]
    generalize w / 2 = ww at *
    generalize s / 2 = ss at *
    simp (disch := omega) only [xk_none, xk_inl, xk_inr, xk_ite, xri_v, xrl_v, xrv_v, xb_z0, xb_z1, xb_b2, if_true, if_false, ite_true, ite_false, iZ_lit, iZ_m1, iZ_m99, iZ_m8, iZ_add, iZ_sub, iZ_mul, iZ_neg, nz0, nzi, iZ_lt, iZ_le, iZ_inj, b2_z, b2_o, ite_bPz, ite_bPo, xb_bP, iZ_xin, if_pos, ite_self, ↓reduceIte, Int.reduceAdd, Int.reduceSub, Int.reduceMul, Int.reduceNeg, Int.reduceLT, Int.reduceLE, if_neg, hAw, hAs]
theorem x_leastPull {M : xM} {A : dA} {half rest w s : Nat} (hw : w < 6) (hs : s < 6) (hL : cLd M A half rest) : ∃ M', fX7_leastPull [.inr (.inr (7, 0)), .inl (iZ (w)), .inl (iZ (s))] M = some (some (.inl (iZ (lsI (fun d => clr A half rest w d s) 17))), M') ∧ xSame frF M M' := by
  obtain ⟨M1, M2, a1, b1, s2, fr⟩ := fr_bothI (M := M) hs
  have key : lsI (fun d => clr A half rest w d s) 17 = lsI (clC (sB M 44) (sB M 45) s w) 17 := by
    rw [clC_ls hs hw]
    exact lsI_cg fun d _ => clr_L hs (fun c hc => (hL c hc).1) (fun c hc => (hL c hc).2)
  refine ⟨M2, ?_, s2⟩
  rw [key]
  have hSw := x_signOf (M := M2) (w := w) (by omega)
  have sb : -1 ≤ (if w % 2 = 0 then (1 : Int) else -1) ∧ (if w % 2 = 0 then (1 : Int) else -1) ≤ 1 := by split <;> omega
  have hx := xfor_all (sg := gX7_leastPull) (st := fun i => (26, [some (.inr (.inr (7, 0))), some (.inl (iZ (w))), some (.inl (iZ (s))), some (.inl (iZ (i)))], [], M2)) (R := fun i => some (some (.inl (iZ (lsI (fun d => i ≤ d ∧ clC (sB M 44) (sB M 45) s w d) 17))), M2)) (n := 17) (fun i hi ih => by
    have hC := x_isClear (M := M2) (w := w) (s := s) (d := i) hw hs hi fr
    have m16 : -16 ≤ (i : Int) * (if w % 2 = 0 then (1 : Int) else -1) ∧ (i : Int) * (if w % 2 = 0 then (1 : Int) else -1) ≤ 16 := by split <;> omega
    rw [nS] at ih
    generalize (if w % 2 = 0 then (1 : Int) else -1) = S at *
    by_cases y : clC (sB M 44) (sB M 45) s w i
    · have e : lsI (fun d => i ≤ d ∧ clC (sB M 44) (sB M 45) s w d) 17 = i := by
        unfold lsI
        rw [lst_eq (k := i) (by omega) (fun j hj z => by omega) (fun _ => ⟨Nat.le_refl _, y⟩), if_pos hi]
      rw [e]
      rw [bP_t y] at hC
      rw [xfix_unf, sX7_leastPull_26]
      simp (disch := omega) only [xk_none, xk_inl, xk_inr, xk_ite, xri_v, xrl_v, xrv_v, xb_z0, xb_z1, xb_b2, if_true, if_false, ite_true, ite_false, iZ_lit, iZ_m1, iZ_m99, iZ_m8, iZ_add, iZ_sub, iZ_mul, iZ_neg, nz0, nzi, iZ_lt, iZ_le, iZ_inj, b2_z, b2_o, ite_bPz, ite_bPo, xb_bP, iZ_xin, if_pos, ite_self, ↓reduceIte, Int.reduceAdd, Int.reduceSub, Int.reduceMul, Int.reduceNeg, Int.reduceLT, Int.reduceLE, if_neg, hSw, hC]
    · rw [bP_f y] at hC
      rw [lsI_cg (p := fun d => i ≤ d ∧ clC (sB M 44) (sB M 45) s w d) (q := fun d => i + 1 ≤ d ∧ clC (sB M 44) (sB M 45) s w d) (fun d _ => ⟨fun z => ⟨by
        by_cases e : d = i
        · subst e; exact absurd z.2 y
        · omega, z.2⟩, fun z => ⟨by omega, z.2⟩⟩), ← ih]
      rw [xfix_unf, sX7_leastPull_26]
      simp (disch := omega) only [xk_none, xk_inl, xk_inr, xk_ite, xri_v, xrl_v, xrv_v, xb_z0, xb_z1, xb_b2, if_true, if_false, ite_true, ite_false, iZ_lit, iZ_m1, iZ_m99, iZ_m8, iZ_add, iZ_sub, iZ_mul, iZ_neg, nz0, nzi, iZ_lt, iZ_le, iZ_inj, b2_z, b2_o, ite_bPz, ite_bPo, xb_bP, iZ_xin, if_pos, ite_self, ↓reduceIte, Int.reduceAdd, Int.reduceSub, Int.reduceMul, Int.reduceNeg, Int.reduceLT, Int.reduceLE, if_neg, hSw, hC]) (by
    rw [lsI_cg (p := fun d => 17 ≤ d ∧ clC (sB M 44) (sB M 45) s w d) (q := fun _ => False) (fun d hd => ⟨fun z => by omega, False.elim⟩), lsI_F]
    rw [xfix_unf, sX7_leastPull_26]
    simp (disch := omega) only [xk_none, xk_inl, xk_inr, xk_ite, xri_v, xrl_v, xrv_v, xb_z0, xb_z1, xb_b2, if_true, if_false, ite_true, ite_false, iZ_lit, iZ_m1, iZ_m99, iZ_m8, iZ_add, iZ_sub, iZ_mul, iZ_neg, nz0, nzi, iZ_lt, iZ_le, iZ_inj, b2_z, b2_o, ite_bPz, ite_bPo, xb_bP, iZ_xin, if_pos, ite_self, ↓reduceIte, Int.reduceAdd, Int.reduceSub, Int.reduceMul, Int.reduceNeg, Int.reduceLT, Int.reduceLE, if_neg]) (i := 0) (by omega)
  rw [lsI_cg (p := fun d => 0 ≤ d ∧ clC (sB M 44) (sB M 45) s w d) (q := clC (sB M 44) (sB M 45) s w) (fun d _ => ⟨fun z => z.2, fun z => ⟨by omega, z⟩⟩)] at hx
  have zz : ((0 : Nat) : Int) = 0 := rfl
  rw [zz] at hx
  show xfix gX7_leastPull (0, [some (.inr (.inr (7, 0))), some (.inl (iZ (w))), some (.inl (iZ (s))), none], [], M) = _; rw [xfix_unf, sX7_leastPull_0]
  simp (disch := omega) only [xk_none, xk_inl, xk_inr, xk_ite, xri_v, xrl_v, xrv_v, xb_z0, xb_z1, xb_b2, if_true, if_false, ite_true, ite_false, iZ_lit, iZ_m1, iZ_m99, iZ_m8, iZ_add, iZ_sub, iZ_mul, iZ_neg, nz0, nzi, iZ_lt, iZ_le, iZ_inj, b2_z, b2_o, ite_bPz, ite_bPo, xb_bP, iZ_xin, if_pos, ite_self, ↓reduceIte, Int.reduceAdd, Int.reduceSub, Int.reduceMul, Int.reduceNeg, Int.reduceLT, Int.reduceLE, if_neg, a1, b1]
  exact hx
