/-! the class: fewest goings -/
theorem x_fillK {M : xM} {k : Nat} : ∃ M', fJ7_fill_d0a16 [.inr (.inr (46, k)), .inr (.inl 0)] M = some (none, M') ∧ xSame (fun r => r = (46, k)) M M' ∧ ∀ u, u < 4928 → ofM M' k u = false := by
  have e77 : Int32.ofNat 77 = iZ 77 := rfl
  obtain ⟨M2, b1, b2, b3⟩ := xfor_M (sg := gJ7_fill_d0a16) (st := fun i M => (6, [some (.inr (.inr (46, k))), some (.inr (.inl (0))), none, some (.inl (iZ (i))), some (.inl (iZ ((77 : Int))))], [], M)) (I := fun n K => xSame (fun r => r = (46, k)) M K ∧ ∀ i, i < n → xL K (46, k) i = 0) (n := 77) (fun i K hi hK => by
    refine ⟨xpL K (46, k) i 0, ?_, hK.1.pL rfl, fun j hj => ?_⟩
    · rw [nS, xfix_unf, sJ7_fill_d0a16_46_6]
      simp (disch := omega) only [xk_none, xk_inl, xk_inr, xk_ite, xri_v, xrl_v, xrv_v, xb_z0, xb_z1, xb_b2, if_true, if_false, ite_true, ite_false, iZ_lit, iZ_m1, iZ_m99, iZ_m8, iZ_add, iZ_sub, iZ_mul, iZ_neg, nz0, nzi, iZ_lt, iZ_le, iZ_inj, b2_z, b2_o, ite_bPz, ite_bPo, xb_bP, iZ_xin, if_pos, ite_self, ↓reduceIte, Int.reduceAdd, Int.reduceSub, Int.reduceMul, Int.reduceNeg, Int.reduceLT, Int.reduceLE, if_neg, iZ_clampN]
    · rw [xL_pL]
      by_cases e : j = i
      · rw [if_pos ⟨rfl, e⟩]
      · rw [if_neg (fun z => e z.2)]; exact hK.2 j (by omega)) (a := 0) (M := M) (by omega) ⟨xSame.rf, fun j hj => by omega⟩
  refine ⟨M2, ?_, b2, fun u hu => by unfold ofM; rw [b3 (u / 64) (by omega), lB_0]⟩
  have zz : ((0 : Nat) : Int) = 0 := rfl
  have e7 : ((77 : Nat) : Int) = 77 := rfl
  rw [zz, e7] at b1
  show xfix gJ7_fill_d0a16 (0, [some (.inr (.inr (46, k))), some (.inr (.inl 0)), none, none, none], [], M) = _
  rw [xfix_unf, sJ7_fill_d0a16_46_0, e77]
  simp (disch := omega) only [xk_none, xk_inl, xk_inr, xk_ite, xri_v, xrl_v, xrv_v, xb_z0, xb_z1, xb_b2, if_true, if_false, ite_true, ite_false, iZ_lit, iZ_m1, iZ_m99, iZ_m8, iZ_add, iZ_sub, iZ_mul, iZ_neg, nz0, nzi, iZ_lt, iZ_le, iZ_inj, b2_z, b2_o, ite_bPz, ite_bPo, xb_bP, iZ_xin, if_pos, ite_self, ↓reduceIte, Int.reduceAdd, Int.reduceSub, Int.reduceMul, Int.reduceNeg, Int.reduceLT, Int.reduceLE, if_neg]
  refine Eq.trans b1 ?_
  rw [xfix_unf, sJ7_fill_d0a16_46_6]
  simp (disch := omega) only [xk_none, xk_inl, xk_inr, xk_ite, xri_v, xrl_v, xrv_v, xb_z0, xb_z1, xb_b2, if_true, if_false, ite_true, ite_false, iZ_lit, iZ_m1, iZ_m99, iZ_m8, iZ_add, iZ_sub, iZ_mul, iZ_neg, nz0, nzi, iZ_lt, iZ_le, iZ_inj, b2_z, b2_o, ite_bPz, ite_bPo, xb_bP, iZ_xin, if_pos, ite_self, ↓reduceIte, Int.reduceAdd, Int.reduceSub, Int.reduceMul, Int.reduceNeg, Int.reduceLT, Int.reduceLE, if_neg]
/-- first reached by so many steps -/
def lvl (E : Nat → Nat → Prop) (d u : Nat) : Prop := pf E d 2456 u ∧ ∀ m, m < d → ¬ pf E m 2456 u
theorem lvl_or {E : Nat → Nat → Prop} {d u : Nat} (h : pf E d 2456 u) : lvl E d u ∨ ∃ m, m < d ∧ pf E m 2456 u := by
  by_cases z : ∃ m, m < d ∧ pf E m 2456 u
  · exact .inr z
  · exact .inl ⟨h, fun m hm y => z ⟨m, hm, y⟩⟩
theorem lvl_none {E : Nat → Nat → Prop} {d : Nat} (h : ∀ u, ¬ lvl E d u) : ∀ n t, pf E n 2456 t → ∃ m, m < d ∧ pf E m 2456 t := by
  have d0 : d ≠ 0 := fun e => by
    subst e
    exact h 2456 ⟨rfl, fun m hm => by omega⟩
  intro n
  induction n with
  | zero => intro t ht; exact ⟨0, by omega, ht⟩
  | succ n ih =>
    rintro t ⟨u, u1, u2⟩
    obtain ⟨m, m1, m2⟩ := ih u u1
    have p : pf E (m + 1) 2456 t := ⟨u, m2, u2⟩
    by_cases e : m + 1 < d
    · exact ⟨m + 1, e, p⟩
    · have : m + 1 = d := by omega
      rw [this] at p
      rcases lvl_or p with z | z
      · exact absurd z (h t)
      · exact z
theorem pf_4913 {E : Nat → Nat → Prop} (hE : ∀ a b, E a b → b < 4913) : ∀ n t, pf E n 2456 t → t < 4913
  | 0, t, h => by
    have e : 2456 = t := h
    omega
  | n + 1, t, ⟨u, _, h2⟩ => hE u t h2
theorem lvl_end {E : Nat → Nat → Prop} (hE : ∀ a b, E a b → b < 4913) (h : ∀ m, m < 4913 → ∃ u, lvl E m u) : ∀ u, ¬ lvl E 4913 u := fun u hu => by
  have all : ∀ m, ∃ x, m < 4914 → lvl E m x := fun m => by
    by_cases e : m < 4913
    · obtain ⟨x, hx⟩ := h m e; exact ⟨x, fun _ => hx⟩
    · by_cases e2 : m = 4913
      · exact ⟨u, fun _ => by rw [e2]; exact hu⟩
      · exact ⟨0, fun z => by omega⟩
  have hq : ∀ m, m < 4914 → lvl E m (Classical.choose (all m)) := fun m hm => Classical.choose_spec (all m) hm
  have := fb_holes 4913 4914 (fun m => Classical.choose (all m)) (fun m hm => pf_4913 hE m _ (hq m hm).1) (fun i j hij hj e => by
    have h1 := (hq i (by omega)).1
    have h2 := (hq j hj).2 i hij
    rw [← e] at h2
    exact h2 h1)
  omega
abbrev lvF (r : xR) : Prop := r = (46, 0) ∨ r = (46, 1) ∨ r = (46, 2) ∨ r = (46, 3) ∨ r = (46, 4)
theorem x_goLoop {M : xM} {A : dA} {half rest : Nat} (hL : cLd M A half rest) : ∀ e d K, d + e = 4913 → xSame lvF M K → cKn K A half rest → (∀ u, u < 4928 → (ofM K 2 u = true ↔ ∃ m, m ≤ d ∧ pf (mvE A half rest) m 2456 u) ∧ (ofM K 4 u = true ↔ lvl (mvE A half rest) d u)) → (∀ m, m < d → (∃ u, lvl (mvE A half rest) m u) ∧ ∀ t, pf (mvE A half rest) m 2456 t → ¬ ouT A half rest t) → ∃ M' v, xfix gX7_fewestGoings (54, [some (.inr (.inr (7, 0))), none, some (.inl (iZ (d)))], [], K) = some (some (.inl (iZ (v))), M') ∧ xSame lvF M M' ∧ isM (fun n => ∃ u, pf (mvE A half rest) n 2456 u ∧ ouT A half rest u) v ∧ v < 5000 := by
  have hE := mvE_lt (A := A) (half := half) (rest := rest)
  have none_ : ∀ d, (∀ u, ¬ lvl (mvE A half rest) d u) → (∀ m, m < d → (∃ u, lvl (mvE A half rest) m u) ∧ ∀ t, pf (mvE A half rest) m 2456 t → ¬ ouT A half rest t) → isM (fun n => ∃ u, pf (mvE A half rest) n 2456 u ∧ ouT A half rest u) (-1) := fun d h1 h2 => .inl ⟨rfl, fun n ⟨t, t1, t2⟩ => by
    obtain ⟨m, m1, m2⟩ := lvl_none h1 n t t1
    exact (h2 m m1).2 t m2 t2⟩
  intro e
  induction e with
  | zero =>
    intro d K hd s1 k1 st hm
    have : d = 4913 := by omega
    subst this
    refine ⟨K, -1, ?_, s1, none_ 4913 (lvl_end hE fun m hm' => (hm m hm').1) hm, by omega⟩
    have e49 : ((4913 : Nat) : Int) = 4913 := rfl
    rw [e49]
    clear none_ hm st
    rw [xfix_unf, sX7_fewestGoings_54]
    simp (disch := omega) only [xk_none, xk_inl, xk_inr, xk_ite, xri_v, xrl_v, xrv_v, xb_z0, xb_z1, xb_b2, if_true, if_false, ite_true, ite_false, iZ_lit, iZ_m1, iZ_m99, iZ_m8, iZ_add, iZ_sub, iZ_mul, iZ_neg, nz0, nzi, iZ_lt, iZ_le, iZ_inj, b2_z, b2_o, ite_bPz, ite_bPo, xb_bP, iZ_xin, if_pos, ite_self, ↓reduceIte, Int.reduceAdd, Int.reduceSub, Int.reduceMul, Int.reduceNeg, Int.reduceLT, Int.reduceLE, if_neg]
  | succ e ih =>
    intro d K hd s1 k1 st hm
    obtain ⟨K1, a1, a2, a3⟩ := x_takeLevel (M := K)
    have s2 : xSame lvF M K1 := s1.tr (a2.wk fun r z => by rcases z with z | z <;> simp [lvF, z])
    by_cases y : ∃ u, u < 4928 ∧ ofM K 4 u = true
    · rw [bP_t y] at a1
      have k2 : cKn K1 A half rest := k1.same a2 (by simp) (by simp)
      have l3 : ∀ s, s < 4928 → (ofM K1 3 s = true ↔ lvl (mvE A half rest) d s) := fun s hs => by rw [(a3 s hs).1]; exact (st s hs).2
      have lt3 : ∀ s, lvl (mvE A half rest) d s → s < 4913 := fun s hs => pf_4913 hE d s hs.1
      have o2 : ∀ s, ofM K1 2 s = ofM K 2 s := fun s => ofM_same a2 (by simp) s
      obtain ⟨K2, c1, c2, c3⟩ := x_someComesOut (M := K1) (hL.same s2 (by simp [lvF]) (by simp [lvF])) k2 (fun s hs h => lt3 s ((l3 s hs).mp h))
      have s3 : xSame lvF M K2 := s2.tr (c2.wk fun r z => by rcases z with z | z <;> simp [lvF, z])
      by_cases z : ∃ s, s < 4928 ∧ ofM K1 3 s = true ∧ ouT A half rest s
      · rw [bP_t z] at c1
        obtain ⟨s, z1, z2, z3⟩ := z
        refine ⟨K2, d, ?_, s3, .inr ⟨d, rfl, ⟨s, ((l3 s z1).mp z2).1, z3⟩, fun n hn ⟨t, t1, t2⟩ => (hm n hn).2 t t1 t2⟩, by omega⟩
        clear none_ hm st ih l3 lt3 o2 a3 hE
        rw [xfix_unf, sX7_fewestGoings_54]
        simp (disch := omega) only [xk_none, xk_inl, xk_inr, xk_ite, xri_v, xrl_v, xrv_v, xb_z0, xb_z1, xb_b2, if_true, if_false, ite_true, ite_false, iZ_lit, iZ_m1, iZ_m99, iZ_m8, iZ_add, iZ_sub, iZ_mul, iZ_neg, nz0, nzi, iZ_lt, iZ_le, iZ_inj, b2_z, b2_o, ite_bPz, ite_bPo, xb_bP, iZ_xin, if_pos, ite_self, ↓reduceIte, Int.reduceAdd, Int.reduceSub, Int.reduceMul, Int.reduceNeg, Int.reduceLT, Int.reduceLE, if_neg, ↓xri_some a1, ↓xri_some c1]
      · rw [bP_f z] at c1
        have o3 : ∀ s, ofM K2 3 s = ofM K1 3 s := fun s => ofM_same c2 (by simp) s
        have o22 : ∀ s, ofM K2 2 s = ofM K 2 s := fun s => (ofM_same c2 (by simp) s).trans (o2 s)
        obtain ⟨K3, g1, g2, g3, g4⟩ := x_spreadLevel (M := K2) (hL.same s3 (by simp [lvF]) (by simp [lvF])) c3 (fun s hs h => by
          rw [o3] at h
          have lv := (l3 s hs).mp h
          refine ⟨lt3 s lv, ?_⟩
          rw [o22]
          exact (st s hs).1.mpr ⟨d, Nat.le_refl _, lv.1⟩) (fun s hs => by rw [ofM_same c2 (by simp)]; exact (a3 s hs).2)
        have s4 : xSame lvF M K3 := s3.tr (g2.wk fun r z => by rcases z with (z | z) | z | z <;> simp [lvF, z])
        have nxt' : ∀ u, (∃ s, s < 4928 ∧ ofM K2 3 s = true ∧ mvE A half rest s u) ↔ ∃ s, lvl (mvE A half rest) d s ∧ mvE A half rest s u := fun u => by
          constructor
          · rintro ⟨s, q1, q2, q3⟩
            rw [o3] at q2
            exact ⟨s, (l3 s q1).mp q2, q3⟩
          · rintro ⟨s, q1, q2⟩
            have := lt3 s q1
            exact ⟨s, by omega, by rw [o3]; exact (l3 s (by omega)).mpr q1, q2⟩
        have up : ∀ u, pf (mvE A half rest) (d + 1) 2456 u → (∃ m, m ≤ d ∧ pf (mvE A half rest) m 2456 u) ∨ ∃ s, lvl (mvE A half rest) d s ∧ mvE A half rest s u := fun u ⟨s, q1, q2⟩ => by
          rcases lvl_or q1 with l | ⟨m, m1, m2⟩
          · exact .inr ⟨s, l, q2⟩
          · exact .inl ⟨m + 1, by omega, s, m2, q2⟩
        obtain ⟨M', v, r1, r2⟩ := ih (d + 1) K3 (by omega) s4 g3 (fun u hu => by
          have q := g4 u hu
          rw [q.1, q.2, nxt' u, o22, (st u hu).1]
          constructor
          · constructor
            · rintro (⟨m, m1, m2⟩ | ⟨s, q1, q2⟩)
              · exact ⟨m, by omega, m2⟩
              · exact ⟨d + 1, Nat.le_refl _, s, q1.1, q2⟩
            · rintro ⟨m, m1, m2⟩
              by_cases e : m ≤ d
              · exact .inl ⟨m, e, m2⟩
              · have : m = d + 1 := by omega
                rw [this] at m2
                exact up u m2
          · constructor
            · rintro ⟨n1, s, q1, q2⟩
              exact ⟨⟨s, q1.1, q2⟩, fun m hm' p => n1 ⟨m, by omega, p⟩⟩
            · rintro ⟨p, np⟩
              have n1 : ¬ ∃ m, m ≤ d ∧ pf (mvE A half rest) m 2456 u := fun ⟨m, m1, m2⟩ => np m (by omega) m2
              exact ⟨n1, (up u p).elim (fun z => absurd z n1) id⟩) (fun m hm' => by
          by_cases e : m = d
          · subst e
            obtain ⟨u, u1, u2⟩ := y
            refine ⟨⟨u, (st u u1).2.mp u2⟩, fun t t1 t2 => ?_⟩
            rcases lvl_or t1 with l | ⟨j, j1, j2⟩
            · have := lt3 t l
              exact z ⟨t, by omega, (l3 t (by omega)).mpr l, t2⟩
            · exact (hm j j1).2 t j2 t2
          · exact hm m (by omega))
        refine ⟨M', v, ?_, r2⟩
        rw [← r1, nS]
        clear none_ hm st ih l3 lt3 o2 a3 hE o3 o22 g4 nxt' up r1
        rw [xfix_unf, sX7_fewestGoings_54]
        simp (disch := omega) only [xk_none, xk_inl, xk_inr, xk_ite, xri_v, xrl_v, xrv_v, xb_z0, xb_z1, xb_b2, if_true, if_false, ite_true, ite_false, iZ_lit, iZ_m1, iZ_m99, iZ_m8, iZ_add, iZ_sub, iZ_mul, iZ_neg, nz0, nzi, iZ_lt, iZ_le, iZ_inj, b2_z, b2_o, ite_bPz, ite_bPo, xb_bP, iZ_xin, if_pos, ite_self, ↓reduceIte, Int.reduceAdd, Int.reduceSub, Int.reduceMul, Int.reduceNeg, Int.reduceLT, Int.reduceLE, if_neg, ↓xri_some a1, ↓xri_some c1, ↓xrv_some g1]
    · rw [bP_f y] at a1
      have emp : ∀ u, ¬ lvl (mvE A half rest) d u := fun u hu => y ⟨u, by have := pf_4913 hE d u hu.1; omega, (st u (by have := pf_4913 hE d u hu.1; omega)).2.mpr hu⟩
      refine ⟨K1, -1, ?_, s2, none_ d emp hm, by omega⟩
      clear none_ hm st ih hE a3 emp
      rw [xfix_unf, sX7_fewestGoings_54]
      simp (disch := omega) only [xk_none, xk_inl, xk_inr, xk_ite, xri_v, xrl_v, xrv_v, xb_z0, xb_z1, xb_b2, if_true, if_false, ite_true, ite_false, iZ_lit, iZ_m1, iZ_m99, iZ_m8, iZ_add, iZ_sub, iZ_mul, iZ_neg, nz0, nzi, iZ_lt, iZ_le, iZ_inj, b2_z, b2_o, ite_bPz, ite_bPo, xb_bP, iZ_xin, if_pos, ite_self, ↓reduceIte, Int.reduceAdd, Int.reduceSub, Int.reduceMul, Int.reduceNeg, Int.reduceLT, Int.reduceLE, if_neg, ↓xri_some a1]
theorem x_fewestGoings {M : xM} {A : dA} {half rest : Nat} (hL : cLd M A half rest) : ∃ M', fX7_fewestGoings [.inr (.inr (7, 0))] M = some (some (.inl (iZ (lsI (fun n => ∃ u, pf (mvE A half rest) n 2456 u ∧ ouT A half rest u) 5000))), M') ∧ xSame lvF M M' := by
  obtain ⟨M1, a1, a2, a3⟩ := x_fillK (M := M) (k := 0)
  obtain ⟨M2, b1, b2, b3⟩ := x_fillK (M := M1) (k := 1)
  obtain ⟨M3, c1, c2, c3⟩ := x_fillK (M := M2) (k := 2)
  obtain ⟨M4, d1, d2, d3⟩ := x_fillK (M := M3) (k := 4)
  obtain ⟨M5, e1, e2, e3⟩ := x_mark (M := M4) (k := 2) (s := 2456) (by omega)
  obtain ⟨M6, f1, f2, f3⟩ := x_mark (M := M5) (k := 4) (s := 2456) (by omega)
  have s6 : xSame lvF M M6 := (((((a2.wk fun r z => by simp [lvF, z]).tr (b2.wk fun r z => by simp [lvF, z])).tr (c2.wk fun r z => by simp [lvF, z])).tr (d2.wk fun r z => by simp [lvF, z])).tr (e2.wk fun r z => by simp [lvF, z])).tr (f2.wk fun r z => by simp [lvF, z])
  have k6 : cKn M6 A half rest := by
    have k2 : cKn M2 A half rest := fun s hs => by
      have z0 : ofM M2 0 s = false := by rw [ofM_same b2 (by simp)]; exact a3 s (by omega)
      have z1 := b3 s (by omega)
      rw [z0, z1]
      exact ⟨fun z => (by cases z), fun _ z => (by cases z)⟩
    exact (((k2.same c2 (by simp) (by simp)).same d2 (by simp) (by simp)).same e2 (by simp) (by simp)).same f2 (by simp) (by simp)
  obtain ⟨M', v, r1, r2, r3, r4⟩ := x_goLoop hL 4913 0 M6 (by omega) s6 k6 (fun u hu => by
    rw [f3, ofM_same e2 (by simp), d3 u hu, ofM_same f2 (by simp), e3, ofM_same d2 (by simp), c3 u hu]
    constructor
    · constructor
      · rintro (z | z)
        · exact ⟨0, Nat.le_refl _, by rw [z]; rfl⟩
        · cases z
      · rintro ⟨m, m1, m2⟩
        have : m = 0 := by omega
        rw [this] at m2
        exact .inl (show 2456 = u from m2).symm
    · constructor
      · rintro (z | z)
        · exact ⟨by rw [z]; rfl, fun m hm => by omega⟩
        · cases z
      · rintro ⟨z, _⟩
        exact .inl (show 2456 = u from z).symm) (fun m hm => by omega)
  refine ⟨M', ?_, r2⟩
  have hv := isM_ls (n := 5000) r3 (by omega)
  rw [← hv, ← r1]
  have zz : ((0 : Nat) : Int) = 0 := rfl
  rw [zz]
  have e24 : ((2456 : Nat) : Int) = 2456 := rfl
  rw [e24] at e1 f1
  clear r1 r3 hv f3 e3 d3 c3 b3 a3 k6
  show xfix gX7_fewestGoings (0, [some (.inr (.inr (7, 0))), none, none], [], M) = _; rw [xfix_unf, sX7_fewestGoings_0]
  simp (disch := omega) only [xk_none, xk_inl, xk_inr, xk_ite, xri_v, xrl_v, xrv_v, xb_z0, xb_z1, xb_b2, if_true, if_false, ite_true, ite_false, iZ_lit, iZ_m1, iZ_m99, iZ_m8, iZ_add, iZ_sub, iZ_mul, iZ_neg, nz0, nzi, iZ_lt, iZ_le, iZ_inj, b2_z, b2_o, ite_bPz, ite_bPo, xb_bP, iZ_xin, if_pos, ite_self, ↓reduceIte, Int.reduceAdd, Int.reduceSub, Int.reduceMul, Int.reduceNeg, Int.reduceLT, Int.reduceLE, if_neg, ↓xrv_some a1, ↓xrv_some b1, ↓xrv_some c1, ↓xrv_some d1, ↓xrv_some e1, ↓xrv_some f1]
