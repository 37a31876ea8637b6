/-! the reference: thing as a step of states -/
theorem rd_scr {M M3 : xM} (h : xSm (fun r j => rdF r j ∨ (r = (12, 0) ∧ j = 30)) M M3) : scr M M3 := h.wk fun r j z => by
  rcases z with (z | z | z | z | z | z | z | z | z) | z
  · obtain ⟨z1, z2⟩ := z
    subst z1
    rcases z2 with e | e | e | e | e | e | e | e | e <;> subst e <;> exact ⟨rfl, rfl⟩
  all_goals first | (subst z; exact ⟨rfl, rfl⟩) | (obtain ⟨z1, z2⟩ := z; subst z1; subst z2; exact ⟨rfl, rfl⟩)
theorem th_bad {A : dA} {S : dS} {M M3 : xM} (h : mZ M A S) (hs : scr M M3) (f : Int × Nat) : mZ (xpI (xpI (xpI M3 (12, 0) 18 (iZ 0)) (12, 0) 25 (iZ f.1)) (12, 0) 29 (iZ (f.2 : Int))) A (nFlt S f) := by
  obtain ⟨hQ, hS, hO, hF⟩ := h
  have hS3 := hS.ro hs.fB
  have hQ3 := hQ.scr hs
  refine ⟨hQ3.st (((xSm.rf.pI (.inl ⟨rfl, by omega⟩)).pI (.inl ⟨rfl, by omega⟩)).pI (.inl ⟨rfl, by omega⟩)), ?_, ?_, hF⟩
  · obtain ⟨⟨b1, b2⟩, ⟨c1, c2⟩, ⟨d1, d2⟩, x, f1, f2, f3, f4⟩ := hS3
    refine ⟨⟨?_, fun k hk => absurd hk (Nat.not_lt_zero _)⟩, ⟨?_, ?_⟩, ⟨fun p hp => ?_, ?_⟩, fun q hq => ⟨?_, fun k hk => ?_⟩, ?_, ?_, ?_, ?_⟩
    · rw [pF_ne (by decide), pF_ne (by decide), pF_eq]; rfl
    · rw [pF_ne (by decide), pF_eq]; rfl
    · rw [pF_eq]; rfl
    · rw [xI_pI_ne (by decide), xI_pI_ne (by decide), xI_pI_ne (by decide)]; exact d1 p hp
    · rw [pF_ne (by decide), pF_ne (by decide), pF_ne (by decide)]; exact d2
    · rw [xI_pI_ne (by decide), xI_pI_ne (by decide), xI_pI_ne (by decide)]; exact (x q hq).1
    · rw [xI_pI_ne (by decide), xI_pI_ne (by decide), xI_pI_ne (by decide)]; exact (x q hq).2 k hk
    · rw [pF_ne (by decide), pF_ne (by decide), pF_ne (by decide)]; exact f1
    · rw [pF_ne (by decide), pF_ne (by decide), pF_ne (by decide)]; exact f2
    · rw [pF_ne (by decide), pF_ne (by decide), pF_ne (by decide)]; exact f3
    · rw [pF_ne (by decide), pF_ne (by decide), pF_ne (by decide)]; exact f4
  · obtain ⟨p1, p2, p3, p4⟩ := hO
    exact ⟨Nat.zero_le _, fun k hk => absurd hk (Nat.not_lt_zero _), p3, p4⟩
theorem th_good {A : dA} {S : dS} {M M3 : xM} {s : pS} (h : mZ M A S) (hs : scr M M3) (hp : pM M3 (sN S) (sT S) s) (ho : pOk (sN S) (sT S) s (pP s)) : zR (xfix gX12_thing (114, [some (.inr (.inr (12, 0))), none, some (.inl (iZ (((0 : Nat))))), none], [], (xpI (xpI (xpI (xpI (xpI M3 (12, 0) 18 (iZ 0)) (12, 0) 25 (iZ 0)) (12, 0) 29 (iZ (-1))) (12, 0) 2 (iZ (pP s))) (12, 0) 3 (iZ (pJ s))))) (.inl (iZ (pP s))) (thA A s) (thS S s) := by
  obtain ⟨hQ, hS, hO, hF⟩ := h
  have hS3 := hS.ro hs.fB
  have hA3 := hQ.1.ro hs.fB
  obtain ⟨⟨o1, o2, o3, _⟩, o5, o6, o7, o8⟩ := ho
  obtain ⟨m1, _, m5, m6, m7⟩ := hp
  generalize hM5 : xpI (xpI (xpI (xpI (xpI M3 (12, 0) 18 (iZ 0)) (12, 0) 25 (iZ 0)) (12, 0) 29 (iZ (-1))) (12, 0) 2 (iZ (pP s))) (12, 0) 3 (iZ (pJ s)) = M5
  have F5 : xSm (fun r j => r = (12, 0) ∧ (j = 18 ∨ j = 25 ∨ j = 29 ∨ j = 2 ∨ j = 3)) M3 M5 := by
    rw [← hM5]
    exact ((((xSm.rf.pI ⟨rfl, by omega⟩).pI ⟨rfl, by omega⟩).pI ⟨rfl, by omega⟩).pI ⟨rfl, by omega⟩).pI ⟨rfl, by omega⟩
  have v18 : xI M5 (12, 0) 18 = iZ 0 := by rw [← hM5, pF_ne (by decide), pF_ne (by decide), pF_ne (by decide), pF_ne (by decide), pF_eq]
  have v25 : xI M5 (12, 0) 25 = iZ 0 := by rw [← hM5, pF_ne (by decide), pF_ne (by decide), pF_ne (by decide), pF_eq]
  have v29 : xI M5 (12, 0) 29 = iZ (-1) := by rw [← hM5, pF_ne (by decide), pF_ne (by decide), pF_eq]
  have v2 : xI M5 (12, 0) 2 = iZ (pP s) := by rw [← hM5, pF_ne (by decide), pF_eq]
  have v3 : xI M5 (12, 0) 3 = iZ (pJ s) := by rw [← hM5, pF_eq]
  obtain ⟨M6, a1, a2, a3⟩ := lp114 (M := M5)
  obtain ⟨M7, b1, b2, b3⟩ := lp141 (M := M6) o2 (by rw [(a2 (12, 0) (by decide)).1]; exact v3)
  obtain ⟨M8, c1, c2, c3, c4, c5⟩ := lp205 (M := M7) o1 (by rw [(b2 (12, 0) (by decide)).1, (a2 (12, 0) (by decide)).1]; exact v2)
  obtain ⟨M9, d1, d2, d3, d4⟩ := lp246 (M := M8)
  -- rows that no copying touches
  have F9 : xSm (fun r j => r = (100, 0) ∨ (r = (104, 0) ∨ r = (105, 0) ∨ r = (106, 0) ∨ r = (107, 0)) ∨ (r = (109, 0) ∨ r = (157, 0) ∨ (r = (12, 0) ∧ (j = 58 ∨ j = 31))) ∨ (r = (159, 0) ∨ (r = (12, 0) ∧ j = 71))) M5 M9 := (((a2.sm.wk fun r j z => .inl z).tr (b2.sm.wk fun r j z => .inr (.inl z))).tr (c2.wk fun r j z => .inr (.inr (.inl z)))).tr (d2.wk fun r j z => .inr (.inr (.inr z)))
  have ht9 : ∀ k, k < sN S → xI M9 (110, 0) k = iZ (sT S k) := fun k hk => by
    rw [(F9 (110, 0) k (by simp)).1, (F5 (110, 0) k (by simp)).1]
    exact (m1.1.2.2 k hk).1
  have hn9 : ∀ q, q < pP s → xI M9 (111, 0) q = iZ (pNa s q) ∧ xI M9 (112, 0) q = iZ (pNl s q) := fun q hq => by
    rw [(F9 (111, 0) q (by simp)).1, (F5 (111, 0) q (by simp)).1, (F9 (112, 0) q (by simp)).1, (F5 (112, 0) q (by simp)).1]
    exact m5 q hq
  have v29' : xI M9 (12, 0) 2 = iZ (pP s) := by rw [(F9 (12, 0) 2 (by simp)).1]; exact v2
  obtain ⟨M10, e1, e2, e3⟩ := lp272 (M := M9) o1 hO.1 v29' ht9 hn9 (fun q hq => ⟨(o5 q hq).1, (o5 q hq).2.1, (o5 q hq).2.2.1⟩)
  have w12 : ∀ j, xI M10 (12, 0) j = xI M9 (12, 0) j := fun j => (e2 (12, 0) (by decide)).1 j
  have hA : mA M10 (thA A s) := by
    refine ⟨⟨o1, o2, o7, o6, hQ.1.1.2.2.2.2⟩, ?_, ?_, fun c hc => ?_, fun j hj => ?_, fun w hw => ?_, fun p hp => ?_, fun k hk => ?_⟩
    · rw [w12]; exact v29'
    · rw [w12, (F9 (12, 0) 3 (by simp)).1]; exact v3
    · rw [(e2 (100, 0) (by decide)).1, (d2 (100, 0) c (by simp)).1, (c2 (100, 0) c (by simp)).1, (b2 (100, 0) (by decide)).1, a3 c hc, (F5 (101, 0) c (by simp)).1]
      exact m7 c hc
    · have hb := b3 j hj
      have hm := m6 j hj
      rw [(e2 (104, 0) (by decide)).1, (d2 (104, 0) j (by simp)).1, (c2 (104, 0) j (by simp)).1, hb.1, (a2 (113, 0) (by decide)).1, (F5 (113, 0) j (by simp)).1]
      rw [(e2 (105, 0) (by decide)).1, (d2 (105, 0) j (by simp)).1, (c2 (105, 0) j (by simp)).1, hb.2.1, (a2 (114, 0) (by decide)).1, (F5 (114, 0) j (by simp)).1]
      rw [(e2 (106, 0) (by decide)).1, (d2 (106, 0) j (by simp)).1, (c2 (106, 0) j (by simp)).1, hb.2.2.1, (a2 (115, 0) (by decide)).1, (F5 (115, 0) j (by simp)).1]
      rw [(e2 (107, 0) (by decide)).1, (d2 (107, 0) j (by simp)).1, (c2 (107, 0) j (by simp)).1, hb.2.2.2, (a2 (116, 0) (by decide)).1, (F5 (116, 0) j (by simp)).1]
      exact hm
    · rw [(e2 (108, 0) (by decide)).1, (F9 (108, 0) w (by simp)).1, (F5 (108, 0) w (by simp)).1]
      exact hA3.2.2.2.2.2.1 w hw
    · rw [(e2 (109, 0) (by decide)).1, (d2 (109, 0) p (by simp)).1, (c3 p hp).1]
      exact (bP_f (c := (false : Bool) = true) (by decide)).symm
    · rw [(e2 (159, 0) (by decide)).1, d3 k hk]
      exact (bP_f (c := (false : Bool) = true) (by decide)).symm
  obtain ⟨M11, f1, f2, f3, f4⟩ := m_findsBelow hA
  have hA11 : mA M11 (thA A s) := hA.same f2 (by decide) (by decide) (by decide) (by decide) (by decide) (by decide) (by decide) (by decide) (by decide)
  obtain ⟨M12, g1, g2, g3⟩ := m_listsCells hA11
  have hA12 : mA M12 (thA A s) := hA11.same g2 (by decide) (by decide) (by decide) (by decide) (by decide) (by decide) (by decide) (by decide) (by decide)
  have F12 : xSame (fun r => (r = (139, 0) ∨ r = (142, 0) ∨ r = (143, 0)) ∨ lR r) M10 M12 := (f2.wk fun r z => .inl z).tr (g2.wk fun r z => .inr z)
  have w : ∀ j, xI M12 (12, 0) j = xI M9 (12, 0) j := fun j => ((F12 (12, 0) (by decide)).1 j).trans (w12 j)
  have x31 : xI M12 (12, 0) 31 = iZ 0 := by rw [w, (d2 (12, 0) 31 (by simp)).1]; exact c5
  have x58 : xI M12 (12, 0) 58 = iZ 0 := by rw [w, (d2 (12, 0) 58 (by simp)).1]; exact c4
  have x71 : xI M12 (12, 0) 71 = iZ (-1) := by rw [w]; exact d4
  have hz : ∀ j, ¬ (j = 18 ∨ j = 25 ∨ j = 29 ∨ j = 2 ∨ j = 3 ∨ j = 58 ∨ j = 31 ∨ j = 71) → xI M12 (12, 0) j = xI M3 (12, 0) j := fun j hj => by
    rw [w, (F9 (12, 0) j (by simp; omega)).1, (F5 (12, 0) j (by simp; omega)).1]
  refine ⟨M12, ?_, ⟨hA12, ?_, ?_, g3, .inl x31, ?_⟩, ⟨⟨?_, fun k hk => absurd hk (Nat.not_lt_zero _)⟩, ⟨?_, ?_⟩, ⟨fun p hp => ?_, x58⟩, fun q hq => ⟨?_, fun k hk => ?_⟩, x71, ?_, ?_, ?_⟩, ⟨Nat.zero_le _, fun k hk => absurd hk (Nat.not_lt_zero _), fun p hp => ⟨?_, ?_⟩, fun q hq => ?_⟩, o8⟩
  · refine ((((a1.trans b1).trans c1).trans d1).trans e1).trans ?_
    have k2 : xI M10 (12, 0) 2 = iZ (pP s) := by rw [w12]; exact v29'
    have k2' : xI M12 (12, 0) 2 = iZ (pP s) := by rw [w]; exact v29'
    rw [xfix_unf, sX12_thing_272]
    simp (disch := omega) only [xk_none, xk_inl, xk_inr, xk_ite, xri_v, xrl_v, xrv_v, xb_z0, xb_z1, xb_b2, if_true, if_false, ite_true, ite_false, iZ_lit, iZ_m1, iZ_m99, iZ_m8, iZ_add, iZ_sub, iZ_mul, iZ_neg, nz0, nzi, iZ_lt, iZ_le, iZ_inj, b2_z, b2_o, ite_bPz, ite_bPo, xb_bP, iZ_xin, if_pos, ite_self, ↓reduceIte, Int.reduceAdd, Int.reduceSub, Int.reduceMul, Int.reduceNeg, Int.reduceLT, Int.reduceLE, if_neg, k2, f1, g1, k2']
  · refine ⟨fun p hp => ?_, fun p hp => ?_⟩
    · rw [(g2 (142, 0) (by decide)).1]; exact f3.1 p hp
    · rw [(g2 (143, 0) (by decide)).1]; exact f3.2 p hp
  · intro heap h1 h2
    rw [(g2 (139, 0) (by decide)).1]
    exact f4 heap h1 h2
  · have q := hQ.2.2.2.2.2
    rw [hz 82 (by omega), (hs (12, 0) 82 (by decide)).1, x31]
    exact q.imp id fun z => ⟨z.1, fun y => absurd y (by decide +kernel)⟩
  · rw [w, (F9 (12, 0) 18 (by simp)).1]; exact v18
  · rw [w, (F9 (12, 0) 25 (by simp)).1]; exact v25
  · rw [w, (F9 (12, 0) 29 (by simp)).1]; exact v29
  · have hp9 : p < pP s := hp
    rw [(F12 (157, 0) (by decide)).1, (e2 (157, 0) (by decide)).1, (d2 (157, 0) p (by simp)).1]
    exact (c3 p (by omega)).2
  · rw [(F12 (166, 0) (by decide)).1]; exact (e3 q hq).1
  · rw [(F12 (165, 0) (by decide)).1]; exact (e3 q hq).2 k hk
  · rw [hz 72 (by omega)]; exact hS3.2.2.2.2.2.1
  · rw [hz 73 (by omega)]; exact hS3.2.2.2.2.2.2.1
  · rw [hz 74 (by omega)]; exact hS3.2.2.2.2.2.2.2
  · show 2 ^ pP s - 1 < 2 ^ pP s
    have := Nat.two_pow_pos (pP s)
    omega
  · show (2 ^ pP s - 1).testBit p = true
    have hp9 : p < pP s := hp
    rw [Nat.testBit_two_pow_sub_one]
    exact decide_eq_true hp9
  · exact ⟨(o5 q hq).2.1, (o5 q hq).2.2.1, (o5 q hq).2.2.2⟩
theorem z_thing {A : dA} {S : dS} {M : xM} (h : mZ M A S) : zR (fX12_thing [.inr (.inr (12, 0))] M) (.inl (iZ (tTh A S).1)) (tTh A S).2.1 (tTh A S).2.2 := by
  obtain ⟨M3, a1, a2⟩ := th_read h
  unfold tTh
  rcases a2 with ⟨f, b1, b2⟩ | ⟨s, b1, b2, b3, b4⟩
  · rw [b1, b2]
    exact ⟨_, rfl, th_bad h (rd_scr a1) f⟩
  · rw [b1, b2]
    exact th_good h (rd_scr a1) b3 b4
