/-! the class: the net's marks -/
noncomputable def mkv (n l : Nat → Prop) (k : Nat) : Nat := @ite _ (l k) (Classical.propDecidable _) 3 (@ite _ (n k) (Classical.propDecidable _) 1 0)
def cMk (M : xM) (n l : Nat → Prop) : Prop := ∀ k, k < 512 → xI M (28, 0) k = iZ (mkv n l k)
theorem mkv_cg {n l n' l' : Nat → Prop} {k : Nat} (h1 : n k ↔ n' k) (h2 : l k ↔ l' k) : mkv n l k = mkv n' l' k := by
  unfold mkv
  by_cases x : l k
  · rw [if_pos x, if_pos (h2.mp x)]
  · rw [if_neg x, if_neg fun z => x (h2.mpr z)]
    by_cases y : n k
    · rw [if_pos y, if_pos (h1.mp y)]
    · rw [if_neg y, if_neg fun z => y (h1.mpr z)]
theorem cMk.cg {M : xM} {n l n' l' : Nat → Prop} (h : cMk M n l) (h1 : ∀ k, k < 512 → (n k ↔ n' k)) (h2 : ∀ k, k < 512 → (l k ↔ l' k)) : cMk M n' l' := fun k hk => by rw [h k hk, mkv_cg (h1 k hk) (h2 k hk)]
theorem mkv_le (n l : Nat → Prop) (k : Nat) : mkv n l k = 0 ∨ mkv n l k = 1 ∨ mkv n l k = 3 := by
  unfold mkv
  by_cases x : l k
  · rw [if_pos x]; omega
  · rw [if_neg x]
    by_cases y : n k
    · rw [if_pos y]; omega
    · rw [if_neg y]; omega
theorem mkv_3 {n l : Nat → Prop} {k : Nat} (h : l k) : mkv n l k = 3 := if_pos h
theorem mkv_1 {n l : Nat → Prop} {k : Nat} (h : ¬ l k) (h2 : n k) : mkv n l k = 1 := by unfold mkv; rw [if_neg h, if_pos h2]
theorem mkv_0 {n l : Nat → Prop} {k : Nat} (h : ¬ l k) (h2 : ¬ n k) : mkv n l k = 0 := by unfold mkv; rw [if_neg h, if_neg h2]
theorem mk_and : (iZ ((0 : Nat) : Int) &&& iZ 1 = iZ 0 ∧ iZ ((1 : Nat) : Int) &&& iZ 1 = iZ 1 ∧ iZ ((3 : Nat) : Int) &&& iZ 1 = iZ 1) ∧ (iZ ((0 : Nat) : Int) &&& iZ 2 = iZ 0 ∧ iZ ((1 : Nat) : Int) &&& iZ 2 = iZ 0 ∧ iZ ((3 : Nat) : Int) &&& iZ 2 = iZ 2) := by decide +kernel
theorem mk_or : (iZ ((0 : Nat) : Int) ||| iZ 1 = iZ ((1 : Nat) : Int) ∧ iZ ((1 : Nat) : Int) ||| iZ 1 = iZ ((1 : Nat) : Int) ∧ iZ ((3 : Nat) : Int) ||| iZ 1 = iZ ((3 : Nat) : Int)) ∧ (iZ ((0 : Nat) : Int) ||| iZ 3 = iZ ((3 : Nat) : Int) ∧ iZ ((1 : Nat) : Int) ||| iZ 3 = iZ ((3 : Nat) : Int) ∧ iZ ((3 : Nat) : Int) ||| iZ 3 = iZ ((3 : Nat) : Int)) := by decide +kernel
theorem x_isLive {M : xM} {n l : Nat → Prop} {k : Nat} (h : cMk M n l) (hk : k < 512) : fX1_isLive [.inr (.inr (1, 0)), .inl (iZ (k))] M = some (some (.inl (bP (l k))), M) := by
  have f := h k hk
  by_cases x : l k
  · rw [bP_t x]
    rw [mkv_3 x] at f
    have e := mk_and.2.2.2
    show xfix gX1_isLive (0, [some (.inr (.inr (1, 0))), some (.inl (iZ (k)))], [], M) = _; rw [xfix_unf, sX1_isLive_0]
    simp (disch := omega) only [xk_none, xk_inl, xk_inr, xk_ite, xri_v, xrl_v, xrv_v, xb_z0, xb_z1, xb_b2, if_true, if_false, ite_true, ite_false, iZ_lit, iZ_m1, iZ_m99, iZ_m8, iZ_add, iZ_sub, iZ_mul, iZ_neg, nz0, nzi, iZ_lt, iZ_le, iZ_inj, b2_z, b2_o, ite_bPz, ite_bPo, xb_bP, iZ_xin, if_pos, ite_self, ↓reduceIte, Int.reduceAdd, Int.reduceSub, Int.reduceMul, Int.reduceNeg, Int.reduceLT, Int.reduceLE, if_neg, iZ_clampN, f, e]
  · rw [bP_f x]
    by_cases y : n k
    · rw [mkv_1 x y] at f
      have e := mk_and.2.2.1
      show xfix gX1_isLive (0, [some (.inr (.inr (1, 0))), some (.inl (iZ (k)))], [], M) = _; rw [xfix_unf, sX1_isLive_0]
      simp (disch := omega) only [xk_none, xk_inl, xk_inr, xk_ite, xri_v, xrl_v, xrv_v, xb_z0, xb_z1, xb_b2, if_true, if_false, ite_true, ite_false, iZ_lit, iZ_m1, iZ_m99, iZ_m8, iZ_add, iZ_sub, iZ_mul, iZ_neg, nz0, nzi, iZ_lt, iZ_le, iZ_inj, b2_z, b2_o, ite_bPz, ite_bPo, xb_bP, iZ_xin, if_pos, ite_self, ↓reduceIte, Int.reduceAdd, Int.reduceSub, Int.reduceMul, Int.reduceNeg, Int.reduceLT, Int.reduceLE, if_neg, iZ_clampN, f, e]
    · rw [mkv_0 x y] at f
      have e := mk_and.2.1
      show xfix gX1_isLive (0, [some (.inr (.inr (1, 0))), some (.inl (iZ (k)))], [], M) = _; rw [xfix_unf, sX1_isLive_0]
      simp (disch := omega) only [xk_none, xk_inl, xk_inr, xk_ite, xri_v, xrl_v, xrv_v, xb_z0, xb_z1, xb_b2, if_true, if_false, ite_true, ite_false, iZ_lit, iZ_m1, iZ_m99, iZ_m8, iZ_add, iZ_sub, iZ_mul, iZ_neg, nz0, nzi, iZ_lt, iZ_le, iZ_inj, b2_z, b2_o, ite_bPz, ite_bPo, xb_bP, iZ_xin, if_pos, ite_self, ↓reduceIte, Int.reduceAdd, Int.reduceSub, Int.reduceMul, Int.reduceNeg, Int.reduceLT, Int.reduceLE, if_neg, iZ_clampN, f, e]
theorem x_inNet {M : xM} {n l : Nat → Prop} {k : Nat} (h : cMk M n l) (hk : k < 512) (hl : l k → n k) : fX1_inNet [.inr (.inr (1, 0)), .inl (iZ (k))] M = some (some (.inl (bP (n k))), M) := by
  have f := h k hk
  by_cases x : l k
  · rw [bP_t (hl x)]
    rw [mkv_3 x] at f
    have e := mk_and.1.2.2
    show xfix gX1_inNet (0, [some (.inr (.inr (1, 0))), some (.inl (iZ (k)))], [], M) = _; rw [xfix_unf, sX1_inNet_0]
    simp (disch := omega) only [xk_none, xk_inl, xk_inr, xk_ite, xri_v, xrl_v, xrv_v, xb_z0, xb_z1, xb_b2, if_true, if_false, ite_true, ite_false, iZ_lit, iZ_m1, iZ_m99, iZ_m8, iZ_add, iZ_sub, iZ_mul, iZ_neg, nz0, nzi, iZ_lt, iZ_le, iZ_inj, b2_z, b2_o, ite_bPz, ite_bPo, xb_bP, iZ_xin, if_pos, ite_self, ↓reduceIte, Int.reduceAdd, Int.reduceSub, Int.reduceMul, Int.reduceNeg, Int.reduceLT, Int.reduceLE, if_neg, iZ_clampN, f, e]
  · by_cases y : n k
    · rw [bP_t y]
      rw [mkv_1 x y] at f
      have e := mk_and.1.2.1
      show xfix gX1_inNet (0, [some (.inr (.inr (1, 0))), some (.inl (iZ (k)))], [], M) = _; rw [xfix_unf, sX1_inNet_0]
      simp (disch := omega) only [xk_none, xk_inl, xk_inr, xk_ite, xri_v, xrl_v, xrv_v, xb_z0, xb_z1, xb_b2, if_true, if_false, ite_true, ite_false, iZ_lit, iZ_m1, iZ_m99, iZ_m8, iZ_add, iZ_sub, iZ_mul, iZ_neg, nz0, nzi, iZ_lt, iZ_le, iZ_inj, b2_z, b2_o, ite_bPz, ite_bPo, xb_bP, iZ_xin, if_pos, ite_self, ↓reduceIte, Int.reduceAdd, Int.reduceSub, Int.reduceMul, Int.reduceNeg, Int.reduceLT, Int.reduceLE, if_neg, iZ_clampN, f, e]
    · rw [bP_f y]
      rw [mkv_0 x y] at f
      have e := mk_and.1.1
      show xfix gX1_inNet (0, [some (.inr (.inr (1, 0))), some (.inl (iZ (k)))], [], M) = _; rw [xfix_unf, sX1_inNet_0]
      simp (disch := omega) only [xk_none, xk_inl, xk_inr, xk_ite, xri_v, xrl_v, xrv_v, xb_z0, xb_z1, xb_b2, if_true, if_false, ite_true, ite_false, iZ_lit, iZ_m1, iZ_m99, iZ_m8, iZ_add, iZ_sub, iZ_mul, iZ_neg, nz0, nzi, iZ_lt, iZ_le, iZ_inj, b2_z, b2_o, ite_bPz, ite_bPo, xb_bP, iZ_xin, if_pos, ite_self, ↓reduceIte, Int.reduceAdd, Int.reduceSub, Int.reduceMul, Int.reduceNeg, Int.reduceLT, Int.reduceLE, if_neg, iZ_clampN, f, e]
/-- one mark more -/
theorem mkv_or {n l : Nat → Prop} {k j : Nat} (b : Prop) (m : Int) (hm : (b ∧ m = 3) ∨ (¬ b ∧ m = 1)) : iZ (mkv n l j) ||| iZ m = iZ (mkv (fun k => n k ∨ k = j) (fun k => l k ∨ (b ∧ k = j)) j) := by
  obtain ⟨⟨o1, o2, o3⟩, o4, o5, o6⟩ := mk_or
  rcases hm with ⟨hb, rfl⟩ | ⟨hb, rfl⟩
  · rw [mkv_3 (n := fun k => n k ∨ k = j) (l := fun k => l k ∨ (b ∧ k = j)) (k := j) (.inr ⟨hb, rfl⟩)]
    rcases mkv_le n l j with e | e | e <;> rw [e]
    · exact o4
    · exact o5
    · exact o6
  · by_cases x : l j
    · rw [mkv_3 x, mkv_3 (n := fun k => n k ∨ k = j) (l := fun k => l k ∨ (b ∧ k = j)) (k := j) (.inl x)]
      exact o3
    · rw [mkv_1 (n := fun k => n k ∨ k = j) (l := fun k => l k ∨ (b ∧ k = j)) (k := j) (fun z => z.elim x fun z => hb z.1) (.inr rfl)]
      by_cases y : n j
      · rw [mkv_1 x y]; exact o2
      · rw [mkv_0 x y]; exact o1
theorem cMk.put {M : xM} {n l : Nat → Prop} {j : Nat} (h : cMk M n l) (b : Prop) : cMk (xpI M (28, 0) j (iZ (mkv (fun k => n k ∨ k = j) (fun k => l k ∨ (b ∧ k = j)) j))) (fun k => n k ∨ k = j) (fun k => l k ∨ (b ∧ k = j)) := fun k hk => by
  by_cases e : k = j
  · rw [e, pR_eq]
  · rw [pR_ne e, h k hk]
    rw [mkv_cg (n' := fun k => n k ∨ k = j) (l' := fun k => l k ∨ (b ∧ k = j)) ⟨.inl, fun z => z.elim id fun z => absurd z e⟩ ⟨.inl, fun z => z.elim id fun z => absurd z.2 e⟩]
theorem x_markHalves {M : xM} {A : dA} {n l : Nat → Prop} {heap : Nat} (hA : aOk A) (hJ : cJt M A) (hW : cWy M 0 (aP A) (barS A)) (hB : ∀ k, barS A k < 512) (hT : cOr M 0 0 on1 (ordA A) (leaA A) (2 ^ aP A)) (h1 : 1 ≤ heap) (hh : heap < 2 ^ aP A) (hM : cMk M n l) : ∃ M', fX1_markHalves [.inr (.inr (1, 0)), .inr (.inr (2, 0)), .inl (iZ (heap))] M = some (none, M') ∧ xSame (fun r => r = (28, 0)) M M' ∧ cMk M' (fun k => n k ∨ ∃ half, ptV A heap half ∧ (k = half ∨ k = ndn heap half)) (fun k => l k ∨ (l heap ∧ ∃ half, lvV A heap half ∧ (k = half ∨ k = ndn heap half))) := by
  have hP := hA.P
  have h512 := Nat.lt_of_lt_of_le hh (pow9 hP).2
  have l0 : (0 : Int64) = lZ 0 := by decide +kernel
  obtain ⟨M', h', u1, u2, u3⟩ := xfor_sub (σ := xM) (sg := gX1_markHalves) (st := fun l h K => (8, [some (.inr (.inr (1, 0))), some (.inr (.inr (2, 0))), some (.inl (iZ (heap))), some (.inl (iZ (h))), some (.inl (iZ (l))), none, none], [], K)) (I := fun j K => xSame (fun r => r = (28, 0)) M K ∧ cMk K (fun k => n k ∨ ∃ half, half < j ∧ ptV A heap half ∧ (k = half ∨ k = ndn heap half)) (fun k => l k ∨ (l heap ∧ ∃ half, half < j ∧ lvV A heap half ∧ (k = half ∨ k = ndn heap half)))) (heap := heap) h512 (by omega)
    (fun j K hj hn2 hI => by
      refine ⟨hI.1, hI.2.cg (fun k _ => or_congr_right ⟨fun ⟨h, a, b⟩ => ⟨h, by omega, b⟩, fun ⟨h, a, b⟩ => ⟨h, ?_, b⟩⟩) (fun k _ => or_congr_right (and_congr_right fun _ => ⟨fun ⟨h, a, b⟩ => ⟨h, by omega, b⟩, fun ⟨h, a, b⟩ => ⟨h, ?_, b⟩⟩))⟩
      · by_cases w : h = j
        · subst w; exact absurd b.1.2.2.1 hn2
        · omega
      · by_cases w : h = j
        · subst w; exact absurd b.1.1.2.2.1 hn2
        · omega)
    (fun lf h j K hl hhj hj hs hnx hI => by
      obtain ⟨i1, i2⟩ := hI
      have j1 : 1 ≤ j := by omega
      have hr := hlf_rest (one := fun _ => False) (ok := fun _ _ => True) (heap := heap) (half := j) ⟨id, j1, hs, trivial⟩ hj
      have hnh := x_nextHalf (M := K) (heap := heap) (half := h) (by omega)
      rw [hnx] at hnh
      have hL : ((lf + 1 : Nat) : Int) + -1 = (lf : Int) := by omega
      have hnd' : iZ (heap : Int) &&& (iZ (j : Int) ^^^ iZ (-1)) = iZ ((ndn heap j : Nat) : Int) := iZ_ndn heap j
      have skip : ¬ ptV A heap j → cMk K (fun k => n k ∨ ∃ half, half < j + 1 ∧ ptV A heap half ∧ (k = half ∨ k = ndn heap half)) (fun k => l k ∨ (l heap ∧ ∃ half, half < j + 1 ∧ lvV A heap half ∧ (k = half ∨ k = ndn heap half))) := fun hn => i2.cg (fun k _ => or_congr_right ⟨fun ⟨h, a, b⟩ => ⟨h, by omega, b⟩, fun ⟨h, a, b⟩ => ⟨h, by
          by_cases w : h = j
          · subst w; exact absurd b.1 hn
          · omega, b⟩⟩) (fun k _ => or_congr_right (and_congr_right fun _ => ⟨fun ⟨h, a, b⟩ => ⟨h, by omega, b⟩, fun ⟨h, a, b⟩ => ⟨h, by
          by_cases w : h = j
          · subst w; exact absurd b.1.1 hn
          · omega, b⟩⟩))
      by_cases a0 : j < ndn heap j
      · have hJK : cJt K A := hJ.sm i1.sm (by simp) (by simp) (by simp)
        have hWK : cWy K 0 (aP A) (barS A) := hW.same i1 (by simp)
        have hgd := x_goodWays (M := K) (k := 0) hA hJK hWK hB h512 (Nat.lt_trans hj hh) (ndn_and.mpr hs)
        have gnz := gwS_prt (A := A) (half := j) hP (barS_sym A) hh (ndn_and.mpr hs)
        have gl : gwS A (barS A) heap j < 64 := msk_lt _ 6
        by_cases a1 : prt A (barS A) heap j
        · have pv : ptV A heap j := ⟨j1, hj, hs, a0, a1⟩
          have nz := gnz.mpr a1
          have hlv := x_isLive i2 h512
          have elv : (l heap ∨ (l heap ∧ ∃ half, half < j ∧ lvV A heap half ∧ (heap = half ∨ heap = ndn heap half))) ↔ l heap := ⟨fun z => z.elim id fun z => z.1, .inl⟩
          rw [bP_c elv] at hlv
          have c1 : xL K (30, 0) j = lZ (ordA A j) := by rw [(i1 (30, 0) (by simp)).2]; exact (hT j j1 (by omega) (hAN_0 j)).1
          have c2 : xL K (30, 0) (ndn heap j) = lZ (ordA A (ndn heap j)) := by rw [(i1 (30, 0) (by simp)).2]; exact (hT _ hr.2.2.1 (by omega) (hAN_0 _)).1
          have o1 := ordA_b A j1 (by omega : j < 512)
          have o2 := ordA_b A hr.2.2.1 (by omega : ndn heap j < 512)
          have q1 := lZ_cle (a := ordA A j) (by omega)
          have q2 := lZ_cle (a := ordA A (ndn heap j)) (by omega)
          -- both marks
          have fin : ∀ (t : Int), (t = 0 ∨ t = 1) → (t = 1 ↔ (l heap ∧ lvV A heap j)) → ∃ K', xfix gX1_markHalves (80, [some (.inr (.inr (1, 0))), some (.inr (.inr (2, 0))), some (.inl (iZ (heap))), some (.inl (iZ (j))), some (.inl (iZ (((lf + 1 : Nat))))), some (.inl (iZ ((ndn heap j)))), none], [.inl (iZ (t))], K) = xfix gX1_markHalves (8, [some (.inr (.inr (1, 0))), some (.inr (.inr (2, 0))), some (.inl (iZ (heap))), some (.inl (iZ (j))), some (.inl (iZ (lf))), none, none], [], K') ∧ xSame (fun r => r = (28, 0)) M K' ∧ cMk K' (fun k => n k ∨ ∃ half, half < j + 1 ∧ ptV A heap half ∧ (k = half ∨ k = ndn heap half)) (fun k => l k ∨ (l heap ∧ ∃ half, half < j + 1 ∧ lvV A heap half ∧ (k = half ∨ k = ndn heap half))) := fun t ht hb => by
            have f1 := i2 j (by omega)
            have p1 := i2.put (j := j) (l heap ∧ lvV A heap j)
            have f2 := p1 (ndn heap j) (by omega)
            have p2 := p1.put (j := ndn heap j) (l heap ∧ lvV A heap j)
            have fcg : ∀ K', cMk K' (fun k => (fun k => (fun k => n k ∨ ∃ half, half < j ∧ ptV A heap half ∧ (k = half ∨ k = ndn heap half)) k ∨ k = j) k ∨ k = ndn heap j) (fun k => (fun k => (fun k => l k ∨ (l heap ∧ ∃ half, half < j ∧ lvV A heap half ∧ (k = half ∨ k = ndn heap half))) k ∨ ((l heap ∧ lvV A heap j) ∧ k = j)) k ∨ ((l heap ∧ lvV A heap j) ∧ k = ndn heap j)) → cMk K' (fun k => n k ∨ ∃ half, half < j + 1 ∧ ptV A heap half ∧ (k = half ∨ k = ndn heap half)) (fun k => l k ∨ (l heap ∧ ∃ half, half < j + 1 ∧ lvV A heap half ∧ (k = half ∨ k = ndn heap half))) := fun K' hK => hK.cg (fun k _ => by
                constructor
                · rintro (((z | ⟨h, z1, z2⟩) | z) | z)
                  · exact .inl z
                  · exact .inr ⟨h, by omega, z2⟩
                  · exact .inr ⟨j, by omega, pv, .inl z⟩
                  · exact .inr ⟨j, by omega, pv, .inr z⟩
                · rintro (z | ⟨h, z1, z2, z3⟩)
                  · exact .inl (.inl (.inl z))
                  · by_cases w : h = j
                    · subst w
                      exact z3.elim (fun z => .inl (.inr z)) .inr
                    · exact .inl (.inl (.inr ⟨h, by omega, z2, z3⟩))) (fun k _ => by
                constructor
                · rintro (((z | ⟨z0, h, z1, z2⟩) | z) | z)
                  · exact .inl z
                  · exact .inr ⟨z0, h, by omega, z2⟩
                  · exact .inr ⟨z.1.1, j, by omega, z.1.2, .inl z.2⟩
                  · exact .inr ⟨z.1.1, j, by omega, z.1.2, .inr z.2⟩
                · rintro (z | ⟨z0, h, z1, z2, z3⟩)
                  · exact .inl (.inl (.inl z))
                  · by_cases w : h = j
                    · subst w
                      exact z3.elim (fun z => .inl (.inr ⟨⟨z0, z2⟩, z⟩)) (fun z => .inr ⟨⟨z0, z2⟩, z⟩)
                    · exact .inl (.inl (.inr ⟨z0, h, by omega, z2, z3⟩)))
            refine ⟨_, ?_, (i1.pI rfl).pI rfl, fcg _ p2⟩
            by_cases z : l heap ∧ lvV A heap j
            · have t1 := hb.mpr z
              have r1 := mkv_or (n := fun k => n k ∨ ∃ half, half < j ∧ ptV A heap half ∧ (k = half ∨ k = ndn heap half)) (l := fun k => l k ∨ (l heap ∧ ∃ half, half < j ∧ lvV A heap half ∧ (k = half ∨ k = ndn heap half))) (k := 0) (j := j) (l heap ∧ lvV A heap j) 3 (.inl ⟨z, rfl⟩)
              have r2 := mkv_or (n := fun k => (fun k => n k ∨ ∃ half, half < j ∧ ptV A heap half ∧ (k = half ∨ k = ndn heap half)) k ∨ k = j) (l := fun k => (fun k => l k ∨ (l heap ∧ ∃ half, half < j ∧ lvV A heap half ∧ (k = half ∨ k = ndn heap half))) k ∨ ((l heap ∧ lvV A heap j) ∧ k = j)) (k := 0) (j := ndn heap j) (l heap ∧ lvV A heap j) 3 (.inl ⟨z, rfl⟩)
              rw [← r1] at f2 ⊢
              rw [← r2]
              rw [t1]
              generalize ndn heap j = rs' at *
              generalize iZ ((mkv (fun k => n k ∨ ∃ half, half < j ∧ ptV A heap half ∧ (k = half ∨ k = ndn heap half)) (fun k => l k ∨ (l heap ∧ ∃ half, half < j ∧ lvV A heap half ∧ (k = half ∨ k = ndn heap half))) j : Nat) : Int) = w1 at *
              rw [xfix_unf, sX1_markHalves_80]
              simp (disch := omega) only [xk_none, xk_inl, xk_inr, xk_ite, xri_v, xrl_v, xrv_v, xb_z0, xb_z1, xb_b2, if_true, if_false, ite_true, ite_false, iZ_lit, iZ_m1, iZ_m99, iZ_m8, iZ_add, iZ_sub, iZ_mul, iZ_neg, nz0, nzi, iZ_lt, iZ_le, iZ_inj, b2_z, b2_o, ite_bPz, ite_bPo, xb_bP, iZ_xin, if_pos, ite_self, ↓reduceIte, Int.reduceAdd, Int.reduceSub, Int.reduceMul, Int.reduceNeg, Int.reduceLT, Int.reduceLE, if_neg, iZ_clampN, f1]
              rw [xfix_unf, sX1_markHalves_99]
              simp (disch := omega) only [xk_none, xk_inl, xk_inr, xk_ite, xri_v, xrl_v, xrv_v, xb_z0, xb_z1, xb_b2, if_true, if_false, ite_true, ite_false, iZ_lit, iZ_m1, iZ_m99, iZ_m8, iZ_add, iZ_sub, iZ_mul, iZ_neg, nz0, nzi, iZ_lt, iZ_le, iZ_inj, b2_z, b2_o, ite_bPz, ite_bPo, xb_bP, iZ_xin, if_pos, ite_self, ↓reduceIte, Int.reduceAdd, Int.reduceSub, Int.reduceMul, Int.reduceNeg, Int.reduceLT, Int.reduceLE, if_neg, iZ_clampN, f2, hL]
            · have t1 : t = 0 := ht.elim id fun w => absurd (hb.mp w) z
              have r1 := mkv_or (n := fun k => n k ∨ ∃ half, half < j ∧ ptV A heap half ∧ (k = half ∨ k = ndn heap half)) (l := fun k => l k ∨ (l heap ∧ ∃ half, half < j ∧ lvV A heap half ∧ (k = half ∨ k = ndn heap half))) (k := 0) (j := j) (l heap ∧ lvV A heap j) 1 (.inr ⟨z, rfl⟩)
              have r2 := mkv_or (n := fun k => (fun k => n k ∨ ∃ half, half < j ∧ ptV A heap half ∧ (k = half ∨ k = ndn heap half)) k ∨ k = j) (l := fun k => (fun k => l k ∨ (l heap ∧ ∃ half, half < j ∧ lvV A heap half ∧ (k = half ∨ k = ndn heap half))) k ∨ ((l heap ∧ lvV A heap j) ∧ k = j)) (k := 0) (j := ndn heap j) (l heap ∧ lvV A heap j) 1 (.inr ⟨z, rfl⟩)
              rw [← r1] at f2 ⊢
              rw [← r2]
              rw [t1]
              generalize ndn heap j = rs' at *
              generalize iZ ((mkv (fun k => n k ∨ ∃ half, half < j ∧ ptV A heap half ∧ (k = half ∨ k = ndn heap half)) (fun k => l k ∨ (l heap ∧ ∃ half, half < j ∧ lvV A heap half ∧ (k = half ∨ k = ndn heap half))) j : Nat) : Int) = w1 at *
              rw [xfix_unf, sX1_markHalves_80]
              simp (disch := omega) only [xk_none, xk_inl, xk_inr, xk_ite, xri_v, xrl_v, xrv_v, xb_z0, xb_z1, xb_b2, if_true, if_false, ite_true, ite_false, iZ_lit, iZ_m1, iZ_m99, iZ_m8, iZ_add, iZ_sub, iZ_mul, iZ_neg, nz0, nzi, iZ_lt, iZ_le, iZ_inj, b2_z, b2_o, ite_bPz, ite_bPo, xb_bP, iZ_xin, if_pos, ite_self, ↓reduceIte, Int.reduceAdd, Int.reduceSub, Int.reduceMul, Int.reduceNeg, Int.reduceLT, Int.reduceLE, if_neg, iZ_clampN, f1]
              rw [xfix_unf, sX1_markHalves_99]
              simp (disch := omega) only [xk_none, xk_inl, xk_inr, xk_ite, xri_v, xrl_v, xrv_v, xb_z0, xb_z1, xb_b2, if_true, if_false, ite_true, ite_false, iZ_lit, iZ_m1, iZ_m99, iZ_m8, iZ_add, iZ_sub, iZ_mul, iZ_neg, nz0, nzi, iZ_lt, iZ_le, iZ_inj, b2_z, b2_o, ite_bPz, ite_bPo, xb_bP, iZ_xin, if_pos, ite_self, ↓reduceIte, Int.reduceAdd, Int.reduceSub, Int.reduceMul, Int.reduceNeg, Int.reduceLT, Int.reduceLE, if_neg, iZ_clampN, f2, hL]
          by_cases b0 : l heap
          · rw [bP_t b0] at hlv
            by_cases b1 : 0 < ordA A j
            · by_cases b2 : 0 < ordA A (ndn heap j)
              · obtain ⟨K', d1, d2⟩ := fin 1 (.inr rfl) ⟨fun _ => ⟨b0, pv, b1, b2⟩, fun _ => rfl⟩
                refine ⟨K', ?_, d2⟩
                rw [← d1]
                generalize gwS A (barS A) heap j = gm at *
                generalize ordA A j = oa at *
                generalize ordA A (ndn heap j) = ob' at *
                generalize ndn heap j = rs' at *
                rw [xfix_unf, sX1_markHalves_8]
                simp (disch := omega) only [xk_none, xk_inl, xk_inr, xk_ite, xri_v, xrl_v, xrv_v, xb_z0, xb_z1, xb_b2, if_true, if_false, ite_true, ite_false, iZ_lit, iZ_m1, iZ_m99, iZ_m8, iZ_add, iZ_sub, iZ_mul, iZ_neg, nz0, nzi, iZ_lt, iZ_le, iZ_inj, b2_z, b2_o, ite_bPz, ite_bPo, xb_bP, iZ_xin, if_pos, ite_self, ↓reduceIte, Int.reduceAdd, Int.reduceSub, Int.reduceMul, Int.reduceNeg, Int.reduceLT, Int.reduceLE, if_neg, ↓xri_some hnh, hnd', ↓xri_some hgd, ↓xri_some hlv, iZ_clampN, c1, c2, l0, q1, q2]
              · obtain ⟨K', d1, d2⟩ := fin 0 (.inl rfl) ⟨fun z => by omega, fun z => absurd z.2.2.2 b2⟩
                refine ⟨K', ?_, d2⟩
                rw [← d1]
                generalize gwS A (barS A) heap j = gm at *
                generalize ordA A j = oa at *
                generalize ordA A (ndn heap j) = ob' at *
                generalize ndn heap j = rs' at *
                rw [xfix_unf, sX1_markHalves_8]
                simp (disch := omega) only [xk_none, xk_inl, xk_inr, xk_ite, xri_v, xrl_v, xrv_v, xb_z0, xb_z1, xb_b2, if_true, if_false, ite_true, ite_false, iZ_lit, iZ_m1, iZ_m99, iZ_m8, iZ_add, iZ_sub, iZ_mul, iZ_neg, nz0, nzi, iZ_lt, iZ_le, iZ_inj, b2_z, b2_o, ite_bPz, ite_bPo, xb_bP, iZ_xin, if_pos, ite_self, ↓reduceIte, Int.reduceAdd, Int.reduceSub, Int.reduceMul, Int.reduceNeg, Int.reduceLT, Int.reduceLE, if_neg, ↓xri_some hnh, hnd', ↓xri_some hgd, ↓xri_some hlv, iZ_clampN, c1, c2, l0, q1, q2]
            · obtain ⟨K', d1, d2⟩ := fin 0 (.inl rfl) ⟨fun z => by omega, fun z => absurd z.2.2.1 b1⟩
              refine ⟨K', ?_, d2⟩
              rw [← d1]
              generalize gwS A (barS A) heap j = gm at *
              generalize ordA A j = oa at *
              generalize ndn heap j = rs' at *
              rw [xfix_unf, sX1_markHalves_8]
              simp (disch := omega) only [xk_none, xk_inl, xk_inr, xk_ite, xri_v, xrl_v, xrv_v, xb_z0, xb_z1, xb_b2, if_true, if_false, ite_true, ite_false, iZ_lit, iZ_m1, iZ_m99, iZ_m8, iZ_add, iZ_sub, iZ_mul, iZ_neg, nz0, nzi, iZ_lt, iZ_le, iZ_inj, b2_z, b2_o, ite_bPz, ite_bPo, xb_bP, iZ_xin, if_pos, ite_self, ↓reduceIte, Int.reduceAdd, Int.reduceSub, Int.reduceMul, Int.reduceNeg, Int.reduceLT, Int.reduceLE, if_neg, ↓xri_some hnh, hnd', ↓xri_some hgd, ↓xri_some hlv, iZ_clampN, c1, l0, q1]
          · rw [bP_f b0] at hlv
            obtain ⟨K', d1, d2⟩ := fin 0 (.inl rfl) ⟨fun z => by omega, fun z => absurd z.1 b0⟩
            refine ⟨K', ?_, d2⟩
            rw [← d1]
            generalize gwS A (barS A) heap j = gm at *
            generalize ndn heap j = rs' at *
            rw [xfix_unf, sX1_markHalves_8]
            simp (disch := omega) only [xk_none, xk_inl, xk_inr, xk_ite, xri_v, xrl_v, xrv_v, xb_z0, xb_z1, xb_b2, if_true, if_false, ite_true, ite_false, iZ_lit, iZ_m1, iZ_m99, iZ_m8, iZ_add, iZ_sub, iZ_mul, iZ_neg, nz0, nzi, iZ_lt, iZ_le, iZ_inj, b2_z, b2_o, ite_bPz, ite_bPo, xb_bP, iZ_xin, if_pos, ite_self, ↓reduceIte, Int.reduceAdd, Int.reduceSub, Int.reduceMul, Int.reduceNeg, Int.reduceLT, Int.reduceLE, if_neg, ↓xri_some hnh, hnd', ↓xri_some hgd, ↓xri_some hlv]
        · refine ⟨K, ?_, i1, skip fun z => a1 z.2.2.2.2⟩
          have nz : ¬ (gwS A (barS A) heap j ≠ 0) := fun z => a1 (gnz.mp z)
          generalize gwS A (barS A) heap j = gm at *
          generalize ndn heap j = rs' at *
          rw [xfix_unf, sX1_markHalves_8]
          simp (disch := omega) only [xk_none, xk_inl, xk_inr, xk_ite, xri_v, xrl_v, xrv_v, xb_z0, xb_z1, xb_b2, if_true, if_false, ite_true, ite_false, iZ_lit, iZ_m1, iZ_m99, iZ_m8, iZ_add, iZ_sub, iZ_mul, iZ_neg, nz0, nzi, iZ_lt, iZ_le, iZ_inj, b2_z, b2_o, ite_bPz, ite_bPo, xb_bP, iZ_xin, if_pos, ite_self, ↓reduceIte, Int.reduceAdd, Int.reduceSub, Int.reduceMul, Int.reduceNeg, Int.reduceLT, Int.reduceLE, if_neg, ↓xri_some hnh, hnd', ↓xri_some hgd, hL]
      · refine ⟨K, ?_, i1, skip fun z => a0 z.2.2.2.1⟩
        generalize ndn heap j = rs' at *
        rw [xfix_unf, sX1_markHalves_8]
        simp (disch := omega) only [xk_none, xk_inl, xk_inr, xk_ite, xri_v, xrl_v, xrv_v, xb_z0, xb_z1, xb_b2, if_true, if_false, ite_true, ite_false, iZ_lit, iZ_m1, iZ_m99, iZ_m8, iZ_add, iZ_sub, iZ_mul, iZ_neg, nz0, nzi, iZ_lt, iZ_le, iZ_inj, b2_z, b2_o, ite_bPz, ite_bPo, xb_bP, iZ_xin, if_pos, ite_self, ↓reduceIte, Int.reduceAdd, Int.reduceSub, Int.reduceMul, Int.reduceNeg, Int.reduceLT, Int.reduceLE, if_neg, ↓xri_some hnh, hnd', hL]) (x := M) ⟨xSame.rf, hM.cg (fun k _ => ⟨.inl, fun z => z.elim id fun ⟨h, a, b, _⟩ => by have := b.1; omega⟩) (fun k _ => ⟨.inl, fun z => z.elim id fun ⟨_, h, a, b, _⟩ => by have := b.1.1; omega⟩)⟩
  have hx := x_halvesOf (M := M) (heap := heap) h512
  have hp2 : (2 : Nat) ≤ 2 ^ bc heap := by
    have bh : bc heap ≠ 0 := fun z => by have := (bc_0 h512).mp z; omega
    calc 2 = 2 ^ 1 := rfl
      _ ≤ 2 ^ bc heap := Nat.pow_le_pow_right (by omega) (by omega)
  have t0 : fX1_markHalves [.inr (.inr (1, 0)), .inr (.inr (2, 0)), .inl (iZ (heap))] M = xfix gX1_markHalves (8, [some (.inr (.inr (1, 0))), some (.inr (.inr (2, 0))), some (.inl (iZ (heap))), some (.inl (iZ (((0 : Nat))))), some (.inl (iZ (((2 ^ bc heap - 2 : Nat))))), none, none], [], M) := by
    have zz : ((0 : Nat) : Int) = 0 := rfl
    have ep2 : ((2 ^ bc heap - 2 : Nat) : Int) = ((2 ^ bc heap : Nat) : Int) - 2 := by omega
    rw [zz, ep2]
    generalize ((2 ^ bc heap : Nat) : Int) - 2 = H at *
    show xfix gX1_markHalves (0, [some (.inr (.inr (1, 0))), some (.inr (.inr (2, 0))), some (.inl (iZ (heap))), none, none, none, none], [], M) = _; rw [xfix_unf, sX1_markHalves_0]
    simp (disch := omega) only [xk_none, xk_inl, xk_inr, xk_ite, xri_v, xrl_v, xrv_v, xb_z0, xb_z1, xb_b2, if_true, if_false, ite_true, ite_false, iZ_lit, iZ_m1, iZ_m99, iZ_m8, iZ_add, iZ_sub, iZ_mul, iZ_neg, nz0, nzi, iZ_lt, iZ_le, iZ_inj, b2_z, b2_o, ite_bPz, ite_bPo, xb_bP, iZ_xin, if_pos, ite_self, ↓reduceIte, Int.reduceAdd, Int.reduceSub, Int.reduceMul, Int.reduceNeg, Int.reduceLT, Int.reduceLE, if_neg, hx]
  refine ⟨M', ?_, u2, u3.cg (fun k _ => or_congr_right ⟨fun ⟨h, a, b⟩ => ⟨h, b⟩, fun ⟨h, b⟩ => ⟨h, b.1.2.1, b⟩⟩) (fun k _ => or_congr_right (and_congr_right fun _ => ⟨fun ⟨h, a, b⟩ => ⟨h, b⟩, fun ⟨h, b⟩ => ⟨h, b.1.1.2.1, b⟩⟩))⟩
  refine t0.trans (u1.trans ?_)
  have zz : ((0 : Nat) : Int) = 0 := rfl
  rw [zz]
  rw [xfix_unf, sX1_markHalves_8]
  simp (disch := omega) only [xk_none, xk_inl, xk_inr, xk_ite, xri_v, xrl_v, xrv_v, xb_z0, xb_z1, xb_b2, if_true, if_false, ite_true, ite_false, iZ_lit, iZ_m1, iZ_m99, iZ_m8, iZ_add, iZ_sub, iZ_mul, iZ_neg, nz0, nzi, iZ_lt, iZ_le, iZ_inj, b2_z, b2_o, ite_bPz, ite_bPo, xb_bP, iZ_xin, if_pos, ite_self, ↓reduceIte, Int.reduceAdd, Int.reduceSub, Int.reduceMul, Int.reduceNeg, Int.reduceLT, Int.reduceLE, if_neg]
