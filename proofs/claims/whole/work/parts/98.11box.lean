/-! the class: boxes -/
abbrev fbF (p : Nat) (r : xR) : Prop := r = (44, 10 * 1) ∨ r = (44, 10 * 1 + 1 + p)
def fiI (M : xM) (b : Nat → Int) (p : Nat) (x y z : Int) (K : xM) : Prop := xSame (fbF p) M K ∧ (∀ c, c < 512 → ((sB K (10 * 1 + 1 + p) c = true ↔ sB M (10 * 1 + 1 + p) c = true ∨ (inBx b c ∧ bef x y z c)) ∧ (sB K (10 * 1) c = true ↔ sB M (10 * 1) c = true ∨ (inBx b c ∧ bef x y z c)))) ∧ ∀ c, c < 512 → inBx b c → bef x y z c → sB M 20 c = false
theorem fiI.cg {M K : xM} {b : Nat → Int} {p : Nat} {x y z x' y' z' : Int} (h : fiI M b p x y z K) (e : ∀ c, c < 512 → inBx b c → (bef x y z c ↔ bef x' y' z' c)) : fiI M b p x' y' z' K := by
  obtain ⟨h1, h2, h3⟩ := h
  refine ⟨h1, fun c hc => ⟨?_, ?_⟩, fun c hc hb hf => h3 c hc hb ((e c hc hb).mpr hf)⟩
  · rw [(h2 c hc).1]
    exact or_congr_right (and_congr_right fun hb => e c hc hb)
  · rw [(h2 c hc).2]
    exact or_congr_right (and_congr_right fun hb => e c hc hb)
def tcl (M : xM) (b : Nat → Int) : Prop := ∃ c, c < 512 ∧ inBx b c ∧ sB M 20 c = true
theorem x_fillBox {M : xM} {b : Nat → Int} {p : Nat} (hp : p < 9) (f0 : xI M (5, 1) 0 = iZ ((p + 1 : Nat) : Int)) (hb : ∀ k, k < 6 → xI M (48, 0) k = iZ (b k)) (b1 : ∀ k, k < 3 → 0 ≤ b k ∧ b k ≤ 7) (b2 : ∀ k, k < 3 → 1 ≤ b (k + 3) ∧ b (k + 3) ≤ 8 - b k) : ∃ M', xSame (fbF p) M M' ∧ ((tcl M b ∧ fX9_fillBox [.inr (.inr (9, 0))] M = some (some (.inl (iZ (0))), M')) ∨ (¬ tcl M b ∧ fX9_fillBox [.inr (.inr (9, 0))] M = some (some (.inl (iZ (1))), M') ∧ ∀ c, c < 512 → ((sB M' (10 * 1 + 1 + p) c = true ↔ sB M (10 * 1 + 1 + p) c = true ∨ inBx b c) ∧ (sB M' (10 * 1) c = true ↔ sB M (10 * 1) c = true ∨ inBx b c)))) := by
  have x0 := b1 0 (by omega)
  have y0 := b1 1 (by omega)
  have z0 := b1 2 (by omega)
  have x1 := b2 0 (by omega)
  have y1 := b2 1 (by omega)
  have z1 := b2 2 (by omega)
  simp only [Nat.reduceAdd] at x1 y1 z1
  have hbK : ∀ K, xSame (fbF p) M K → ∀ k, k < 6 → xI K (48, 0) k = iZ (b k) := fun K hK k hk => by rw [(hK (48, 0) (by simp)).1]; exact hb k hk
  have rowx : ∀ (z y : Int), b 2 ≤ z → z < b 2 + b 5 → b 1 ≤ y → y < b 1 + b 4 → ∀ (d : Nat) (x : Int) (K : xM), x + d = b 0 + b 3 → b 0 ≤ x → fiI M b p x y z K → (∃ M', tcl M b ∧ xfix gX9_fillBox (55, [some (.inr (.inr (9, 0))), some (.inl (iZ (z))), some (.inl (iZ (y))), some (.inl (iZ (x)))], [], K) = some (some (.inl (iZ (0))), M') ∧ xSame (fbF p) M M') ∨ ∃ K', xfix gX9_fillBox (55, [some (.inr (.inr (9, 0))), some (.inl (iZ (z))), some (.inl (iZ (y))), some (.inl (iZ (x)))], [], K) = xfix gX9_fillBox (31, [some (.inr (.inr (9, 0))), some (.inl (iZ (z))), some (.inl (iZ ((y + 1)))), none], [], K') ∧ fiI M b p (b 0) (y + 1) z K' := by
    intro z y hz1 hz2 hy1 hy2 d
    induction d with
    | zero =>
      intro x K hd hx hK
      have q := hbK K hK.1
      have q0 := q 0 (by omega)
      have q3 := q 3 (by omega)
      refine .inr ⟨K, ?_, hK.cg fun c hc hbx => ?_⟩
      · rw [xfix_unf, sX9_fillBox_55]
        simp (disch := omega) only [xk_none, xk_inl, xk_inr, xk_ite, xri_v, xrl_v, xrv_v, xb_z0, xb_z1, xb_b2, if_true, if_false, ite_true, ite_false, iZ_lit, iZ_m1, iZ_m99, iZ_m8, iZ_add, iZ_sub, iZ_mul, iZ_neg, nz0, nzi, iZ_lt, iZ_le, iZ_inj, b2_z, b2_o, ite_bPz, ite_bPo, xb_bP, iZ_xin, if_pos, ite_self, ↓reduceIte, Int.reduceAdd, Int.reduceSub, Int.reduceMul, Int.reduceNeg, Int.reduceLT, Int.reduceLE, if_neg, cl_0, cl_3, q0, q3]
      · unfold bef inBx at *
        omega
    | succ d ih =>
      intro x K hd hx hK
      have q := hbK K hK.1
      have q0 := q 0 (by omega)
      have q3 := q 3 (by omega)
      obtain ⟨xn, rfl⟩ : ∃ n : Nat, x = n := ⟨x.toNat, by omega⟩
      obtain ⟨yn, rfl⟩ : ∃ n : Nat, y = n := ⟨y.toNat, by omega⟩
      obtain ⟨zn, rfl⟩ : ∃ n : Nat, z = n := ⟨z.toNat, by omega⟩
      obtain ⟨c, hc⟩ : ∃ c : Nat, c = 64 * zn + 8 * yn + xn := ⟨_, rfl⟩
      have hc5 : c < 512 := by omega
      have cx : c % 8 = xn := by omega
      have cy : c / 8 % 8 = yn := by omega
      have cz : c / 64 = zn := by omega
      have hin : inBx b c := by unfold inBx; rw [cx, cy, cz]; omega
      have hnb : ¬ bef xn yn zn c := by unfold bef; rw [cx, cy, cz]; omega
      have hh := x_has (M := K) (k := 20) (x := (xn : Int)) (y := (yn : Int)) (z := (zn : Int)) (by unfold r32; omega) (by unfold r32; omega) (by unfold r32; omega)
      have e1 : (64 * (zn : Int) + 8 * (yn : Int) + (xn : Int)).toNat = c := by omega
      rw [e1, sB_same hK.1 (by first | (simp; omega) | simp) c] at hh
      by_cases ok : sB M 20 c = true
      · rw [bP_t ⟨by omega, ok⟩] at hh
        refine .inl ⟨K, ⟨c, hc5, hin, ok⟩, ?_, hK.1⟩
        rw [xfix_unf, sX9_fillBox_55]
        simp (disch := omega) only [xk_none, xk_inl, xk_inr, xk_ite, xri_v, xrl_v, xrv_v, xb_z0, xb_z1, xb_b2, if_true, if_false, ite_true, ite_false, iZ_lit, iZ_m1, iZ_m99, iZ_m8, iZ_add, iZ_sub, iZ_mul, iZ_neg, nz0, nzi, iZ_lt, iZ_le, iZ_inj, b2_z, b2_o, ite_bPz, ite_bPo, xb_bP, iZ_xin, if_pos, ite_self, ↓reduceIte, Int.reduceAdd, Int.reduceSub, Int.reduceMul, Int.reduceNeg, Int.reduceLT, Int.reduceLE, if_neg, cl_0, cl_3, q0, q3, hh]
      · rw [bP_f (fun w => ok w.2)] at hh
        have g0 : xI K (5, 1) 0 = iZ ((p + 1 : Nat) : Int) := by rw [(hK.1 (5, 1) (by simp)).1]; exact f0
        obtain ⟨K1, k1, k2, k3, k4⟩ := x_putCell (M := K) (s := 1) (P := p + 1) (p := p) (x := xn) (y := yn) (z := zn) (by omega) (by omega) g0 (by omega) (by omega) (by omega)
        have hK2 : fiI M b p ((xn : Int) + 1) yn zn K1 := by
          have key : ∀ c', c' < 512 → c' ≠ c → (bef xn yn zn c' ↔ bef ((xn : Int) + 1) yn zn c') := fun c' h1 h2 => by unfold bef; omega
          have hnew : bef ((xn : Int) + 1) yn zn c := by unfold bef; rw [cx, cy, cz]; omega
          refine ⟨hK.1.tr k2, fun c' hc' => ⟨?_, ?_⟩, fun c' hc' hb' hf => ?_⟩
          · rw [k3 c' hc', Bool.or_eq_true, (hK.2.1 c' hc').1, decide_eq_true_eq, ← hc]
            by_cases e : c' = c
            · subst e; exact ⟨fun _ => .inr ⟨hin, hnew⟩, fun _ => .inr rfl⟩
            · rw [key c' hc' e]; exact ⟨fun w => w.elim id fun w => absurd w e, .inl⟩
          · rw [k4 c' hc', Bool.or_eq_true, (hK.2.1 c' hc').2, decide_eq_true_eq, ← hc]
            by_cases e : c' = c
            · subst e; exact ⟨fun _ => .inr ⟨hin, hnew⟩, fun _ => .inr rfl⟩
            · rw [key c' hc' e]; exact ⟨fun w => w.elim id fun w => absurd w e, .inl⟩
          · by_cases e : c' = c
            · rw [e]; simpa using ok
            · exact hK.2.2 c' hc' hb' ((key c' hc' e).mpr hf)
        have st : xfix gX9_fillBox (55, [some (.inr (.inr (9, 0))), some (.inl (iZ (zn))), some (.inl (iZ (yn))), some (.inl (iZ (xn)))], [], K) = xfix gX9_fillBox (55, [some (.inr (.inr (9, 0))), some (.inl (iZ (zn))), some (.inl (iZ (yn))), some (.inl (iZ (((xn : Int) + 1))))], [], K1) := by
          have ep : ((p + 1 : Nat) : Int) - 1 = (p : Int) := by omega
          rw [xfix_unf, sX9_fillBox_55]
          simp (disch := omega) only [xk_none, xk_inl, xk_inr, xk_ite, xri_v, xrl_v, xrv_v, xb_z0, xb_z1, xb_b2, if_true, if_false, ite_true, ite_false, iZ_lit, iZ_m1, iZ_m99, iZ_m8, iZ_add, iZ_sub, iZ_mul, iZ_neg, nz0, nzi, iZ_lt, iZ_le, iZ_inj, b2_z, b2_o, ite_bPz, ite_bPo, xb_bP, iZ_xin, if_pos, ite_self, ↓reduceIte, Int.reduceAdd, Int.reduceSub, Int.reduceMul, Int.reduceNeg, Int.reduceLT, Int.reduceLE, if_neg, cl_0, cl_3, q0, q3, hh, g0, ep, k1]
        rcases ih ((xn : Int) + 1) _ (by omega) (by omega) hK2 with ⟨M', w1, w2, w3⟩ | ⟨K', w1, w2⟩
        · exact .inl ⟨M', w1, st.trans w2, w3⟩
        · exact .inr ⟨K', st.trans w1, w2⟩
  have rowy : ∀ (z : Int), b 2 ≤ z → z < b 2 + b 5 → ∀ (d : Nat) (y : Int) (K : xM), y + d = b 1 + b 4 → b 1 ≤ y → fiI M b p (b 0) y z K → (∃ M', tcl M b ∧ xfix gX9_fillBox (31, [some (.inr (.inr (9, 0))), some (.inl (iZ (z))), some (.inl (iZ (y))), none], [], K) = some (some (.inl (iZ (0))), M') ∧ xSame (fbF p) M M') ∨ ∃ K', xfix gX9_fillBox (31, [some (.inr (.inr (9, 0))), some (.inl (iZ (z))), some (.inl (iZ (y))), none], [], K) = xfix gX9_fillBox (7, [some (.inr (.inr (9, 0))), some (.inl (iZ ((z + 1)))), none, none], [], K') ∧ fiI M b p (b 0) (b 1) (z + 1) K' := by
    intro z hz1 hz2 d
    induction d with
    | zero =>
      intro y K hd hy hK
      have q := hbK K hK.1
      have q1 := q 1 (by omega)
      have q4 := q 4 (by omega)
      refine .inr ⟨K, ?_, hK.cg fun c hc hbx => ?_⟩
      · rw [xfix_unf, sX9_fillBox_31]
        simp (disch := omega) only [xk_none, xk_inl, xk_inr, xk_ite, xri_v, xrl_v, xrv_v, xb_z0, xb_z1, xb_b2, if_true, if_false, ite_true, ite_false, iZ_lit, iZ_m1, iZ_m99, iZ_m8, iZ_add, iZ_sub, iZ_mul, iZ_neg, nz0, nzi, iZ_lt, iZ_le, iZ_inj, b2_z, b2_o, ite_bPz, ite_bPo, xb_bP, iZ_xin, if_pos, ite_self, ↓reduceIte, Int.reduceAdd, Int.reduceSub, Int.reduceMul, Int.reduceNeg, Int.reduceLT, Int.reduceLE, if_neg, cl_1, cl_4, q1, q4]
      · unfold bef inBx at *
        omega
    | succ d ih =>
      intro y K hd hy hK
      have q := hbK K hK.1
      have q0 := q 0 (by omega)
      have q1 := q 1 (by omega)
      have q4 := q 4 (by omega)
      have st : xfix gX9_fillBox (31, [some (.inr (.inr (9, 0))), some (.inl (iZ (z))), some (.inl (iZ (y))), none], [], K) = xfix gX9_fillBox (55, [some (.inr (.inr (9, 0))), some (.inl (iZ (z))), some (.inl (iZ (y))), some (.inl (iZ ((b 0))))], [], K) := by
        rw [xfix_unf, sX9_fillBox_31]
        simp (disch := omega) only [xk_none, xk_inl, xk_inr, xk_ite, xri_v, xrl_v, xrv_v, xb_z0, xb_z1, xb_b2, if_true, if_false, ite_true, ite_false, iZ_lit, iZ_m1, iZ_m99, iZ_m8, iZ_add, iZ_sub, iZ_mul, iZ_neg, nz0, nzi, iZ_lt, iZ_le, iZ_inj, b2_z, b2_o, ite_bPz, ite_bPo, xb_bP, iZ_xin, if_pos, ite_self, ↓reduceIte, Int.reduceAdd, Int.reduceSub, Int.reduceMul, Int.reduceNeg, Int.reduceLT, Int.reduceLE, if_neg, cl_0, cl_1, cl_4, q0, q1, q4]
      rcases rowx z y hz1 hz2 hy (by omega) (b 3).toNat (b 0) K (by omega) (by omega) hK with ⟨M', w1, w2, w3⟩ | ⟨K', w1, w2⟩
      · exact .inl ⟨M', w1, st.trans w2, w3⟩
      · rcases ih (y + 1) K' (by omega) (by omega) w2 with ⟨M', v1, v2, v3⟩ | ⟨K2, v1, v2⟩
        · exact .inl ⟨M', v1, (st.trans w1).trans v2, v3⟩
        · exact .inr ⟨K2, (st.trans w1).trans v1, v2⟩
  have rowz : ∀ (d : Nat) (z : Int) (K : xM), z + d = b 2 + b 5 → b 2 ≤ z → fiI M b p (b 0) (b 1) z K → (∃ M', tcl M b ∧ xfix gX9_fillBox (7, [some (.inr (.inr (9, 0))), some (.inl (iZ (z))), none, none], [], K) = some (some (.inl (iZ (0))), M') ∧ xSame (fbF p) M M') ∨ ∃ K', xfix gX9_fillBox (7, [some (.inr (.inr (9, 0))), some (.inl (iZ (z))), none, none], [], K) = some (some (.inl (iZ (1))), K') ∧ fiI M b p (b 0) (b 1) (b 2 + b 5) K' := by
    intro d
    induction d with
    | zero =>
      intro z K hd hz hK
      have q := hbK K hK.1
      have q2 := q 2 (by omega)
      have q5 := q 5 (by omega)
      refine .inr ⟨K, ?_, ?_⟩
      · rw [xfix_unf, sX9_fillBox_7]
        simp (disch := omega) only [xk_none, xk_inl, xk_inr, xk_ite, xri_v, xrl_v, xrv_v, xb_z0, xb_z1, xb_b2, if_true, if_false, ite_true, ite_false, iZ_lit, iZ_m1, iZ_m99, iZ_m8, iZ_add, iZ_sub, iZ_mul, iZ_neg, nz0, nzi, iZ_lt, iZ_le, iZ_inj, b2_z, b2_o, ite_bPz, ite_bPo, xb_bP, iZ_xin, if_pos, ite_self, ↓reduceIte, Int.reduceAdd, Int.reduceSub, Int.reduceMul, Int.reduceNeg, Int.reduceLT, Int.reduceLE, if_neg, cl_2, cl_5, q2, q5]
      · rw [show b 2 + b 5 = z by omega]; exact hK
    | succ d ih =>
      intro z K hd hz hK
      have q := hbK K hK.1
      have q1 := q 1 (by omega)
      have q2 := q 2 (by omega)
      have q5 := q 5 (by omega)
      have st : xfix gX9_fillBox (7, [some (.inr (.inr (9, 0))), some (.inl (iZ (z))), none, none], [], K) = xfix gX9_fillBox (31, [some (.inr (.inr (9, 0))), some (.inl (iZ (z))), some (.inl (iZ ((b 1)))), none], [], K) := by
        rw [xfix_unf, sX9_fillBox_7]
        simp (disch := omega) only [xk_none, xk_inl, xk_inr, xk_ite, xri_v, xrl_v, xrv_v, xb_z0, xb_z1, xb_b2, if_true, if_false, ite_true, ite_false, iZ_lit, iZ_m1, iZ_m99, iZ_m8, iZ_add, iZ_sub, iZ_mul, iZ_neg, nz0, nzi, iZ_lt, iZ_le, iZ_inj, b2_z, b2_o, ite_bPz, ite_bPo, xb_bP, iZ_xin, if_pos, ite_self, ↓reduceIte, Int.reduceAdd, Int.reduceSub, Int.reduceMul, Int.reduceNeg, Int.reduceLT, Int.reduceLE, if_neg, cl_1, cl_2, cl_5, q1, q2, q5]
      rcases rowy z hz (by omega) (b 4).toNat (b 1) K (by omega) (by omega) hK with ⟨M', w1, w2, w3⟩ | ⟨K', w1, w2⟩
      · exact .inl ⟨M', w1, st.trans w2, w3⟩
      · rcases ih (z + 1) K' (by omega) (by omega) w2 with ⟨M', v1, v2, v3⟩ | ⟨K2, v1, v2⟩
        · exact .inl ⟨M', v1, (st.trans w1).trans v2, v3⟩
        · exact .inr ⟨K2, (st.trans w1).trans v1, v2⟩
  have q2 := hb 2 (by omega)
  have t0 : fX9_fillBox [.inr (.inr (9, 0))] M = xfix gX9_fillBox (7, [some (.inr (.inr (9, 0))), some (.inl (iZ ((b 2)))), none, none], [], M) := by
    show xfix gX9_fillBox (0, [some (.inr (.inr (9, 0))), none, none, none], [], M) = _; rw [xfix_unf, sX9_fillBox_0]
    simp (disch := omega) only [xk_none, xk_inl, xk_inr, xk_ite, xri_v, xrl_v, xrv_v, xb_z0, xb_z1, xb_b2, if_true, if_false, ite_true, ite_false, iZ_lit, iZ_m1, iZ_m99, iZ_m8, iZ_add, iZ_sub, iZ_mul, iZ_neg, nz0, nzi, iZ_lt, iZ_le, iZ_inj, b2_z, b2_o, ite_bPz, ite_bPo, xb_bP, iZ_xin, if_pos, ite_self, ↓reduceIte, Int.reduceAdd, Int.reduceSub, Int.reduceMul, Int.reduceNeg, Int.reduceLT, Int.reduceLE, if_neg, cl_2, q2]
  have h0 : fiI M b p (b 0) (b 1) (b 2) M := by
    have nb : ∀ c, inBx b c → ¬ bef (b 0) (b 1) (b 2) c := fun c h => by unfold inBx at h; unfold bef; omega
    exact ⟨xSame.rf, fun c _ => ⟨⟨.inl, fun w => w.elim id fun w => absurd w.2 (nb c w.1)⟩, ⟨.inl, fun w => w.elim id fun w => absurd w.2 (nb c w.1)⟩⟩, fun c _ h1 h2 => absurd h2 (nb c h1)⟩
  rcases rowz (b 5).toNat (b 2) M (by omega) (by omega) h0 with ⟨M', w1, w2, w3⟩ | ⟨K', w1, w2, w3, w4⟩
  · exact ⟨M', w3, .inl ⟨w1, t0.trans w2⟩⟩
  · have nb : ∀ c, inBx b c → bef (b 0) (b 1) (b 2 + b 5) c := fun c h => by unfold inBx at h; unfold bef; omega
    refine ⟨K', w2, .inr ⟨fun ⟨c, c1, c2, c3⟩ => ?_, t0.trans w1, fun c hc => ⟨?_, ?_⟩⟩⟩
    · rw [w4 c c1 c2 (nb c c2)] at c3; cases c3
    · rw [(w3 c hc).1]; exact or_congr_right ⟨fun w => w.1, fun w => ⟨w, nb c w⟩⟩
    · rw [(w3 c hc).2]; exact or_congr_right ⟨fun w => w.1, fun w => ⟨w, nb c w⟩⟩
theorem ck2 {N : Nat} {T : Nat → Nat} {st : Nat} (h : ck N T st = 2) : (st < N ∧ isD (T st)) ∧ 0 ≤ dv T st (tE N T st - st) ∧ dv T st (tE N T st - st) < 1000 := by
  unfold ck at h
  by_cases a : N ≤ st
  · rw [if_pos a] at h; omega
  · rw [if_neg a] at h
    by_cases b : isL (T st)
    · rw [if_pos b] at h; split at h <;> omega
    · rw [if_neg b] at h
      by_cases c : isD (T st)
      · rw [if_pos c] at h
        have e : tE N T st = rn isD N T st := by unfold tE; rw [if_neg a, if_neg b, if_pos c]
        have hl : tE N T st - st ≤ 3 := Classical.byContradiction fun z => by rw [if_neg z] at h; omega
        have hd := dv_b (T := T) (st := st) hl (fun j hj => by rw [e] at hj; exact (rn_i (P := isD) (by omega) hj).2)
        have hm : (10 : Int) ^ (tE N T st - st) ≤ 1000 := by
          have : tE N T st - st = 0 ∨ tE N T st - st = 1 ∨ tE N T st - st = 2 ∨ tE N T st - st = 3 := by omega
          rcases this with z | z | z | z <;> rw [z] <;> decide
        exact ⟨⟨by omega, c⟩, hd.1, by omega⟩
      · rw [if_neg c] at h; split at h <;> omega
theorem pT.num {M : xM} {N st : Nat} {T : Nat → Nat} (h : pT M N T st) (hc : ck N T st = 2) : xI M (8, 0) 6 = iZ (dv T st (tE N T st - st)) := h.2.1.2.2.2.2 (ck2 hc).1.1 (ck2 hc).1.2
theorem x_fits {M : xM} {k : Nat} {v : Int} {b : Nat → Int} (hk : k < 6) (hv : 0 ≤ v ∧ v < 1000) (hb : 3 ≤ k → xI M (48, 0) (k - 3) = iZ (b (k - 3)) ∧ 0 ≤ b (k - 3) ∧ b (k - 3) ≤ 7) : fX9_fits [.inr (.inr (9, 0)), .inl (iZ (k)), .inl (iZ (v))] M = some (some (.inl (bP (bLo k ≤ v ∧ v ≤ bHi k b))), M) := by
  unfold bLo bHi
  by_cases e : k < 3
  · rw [if_pos e, if_pos e]
    show xfix gX9_fits (0, [some (.inr (.inr (9, 0))), some (.inl (iZ (k))), some (.inl (iZ (v)))], [], M) = _; rw [xfix_unf, sX9_fits_0]
    simp (disch := omega) only [xk_none, xk_inl, xk_inr, xk_ite, xri_v, xrl_v, xrv_v, xb_z0, xb_z1, xb_b2, if_true, if_false, ite_true, ite_false, iZ_lit, iZ_m1, iZ_m99, iZ_m8, iZ_add, iZ_sub, iZ_mul, iZ_neg, nz0, nzi, iZ_lt, iZ_le, iZ_inj, b2_z, b2_o, ite_bPz, ite_bPo, xb_bP, iZ_xin, if_pos, ite_self, ↓reduceIte, Int.reduceAdd, Int.reduceSub, Int.reduceMul, Int.reduceNeg, Int.reduceLT, Int.reduceLE, if_neg]
    (repeat' split) <;> first | (rw [bP_t (by omega)]) | (rw [bP_f (by omega)])
  · rw [if_neg e, if_neg e]
    obtain ⟨h1, h2⟩ := hb (by omega)
    have ek : (k : Int) - 3 = ((k - 3 : Nat) : Int) := by omega
    have hm : k - 3 < 3 := by omega
    generalize b (k - 3) = u at *
    generalize k - 3 = m at *
    by_cases z : v ≤ 0
    · rw [bP_f (by omega)]
      show xfix gX9_fits (0, [some (.inr (.inr (9, 0))), some (.inl (iZ (k))), some (.inl (iZ (v)))], [], M) = _; rw [xfix_unf, sX9_fits_0]
      simp (disch := omega) only [xk_none, xk_inl, xk_inr, xk_ite, xri_v, xrl_v, xrv_v, xb_z0, xb_z1, xb_b2, if_true, if_false, ite_true, ite_false, iZ_lit, iZ_m1, iZ_m99, iZ_m8, iZ_add, iZ_sub, iZ_mul, iZ_neg, nz0, nzi, iZ_lt, iZ_le, iZ_inj, b2_z, b2_o, ite_bPz, ite_bPo, xb_bP, iZ_xin, if_pos, ite_self, ↓reduceIte, Int.reduceAdd, Int.reduceSub, Int.reduceMul, Int.reduceNeg, Int.reduceLT, Int.reduceLE, if_neg, ek, iZ_clampN, h1]
    · by_cases z2 : u + v ≤ 8
      · rw [bP_t (by omega)]
        show xfix gX9_fits (0, [some (.inr (.inr (9, 0))), some (.inl (iZ (k))), some (.inl (iZ (v)))], [], M) = _; rw [xfix_unf, sX9_fits_0]
        simp (disch := omega) only [xk_none, xk_inl, xk_inr, xk_ite, xri_v, xrl_v, xrv_v, xb_z0, xb_z1, xb_b2, if_true, if_false, ite_true, ite_false, iZ_lit, iZ_m1, iZ_m99, iZ_m8, iZ_add, iZ_sub, iZ_mul, iZ_neg, nz0, nzi, iZ_lt, iZ_le, iZ_inj, b2_z, b2_o, ite_bPz, ite_bPo, xb_bP, iZ_xin, if_pos, ite_self, ↓reduceIte, Int.reduceAdd, Int.reduceSub, Int.reduceMul, Int.reduceNeg, Int.reduceLT, Int.reduceLE, if_neg, ek, iZ_clampN, h1]
      · rw [bP_f (by omega)]
        show xfix gX9_fits (0, [some (.inr (.inr (9, 0))), some (.inl (iZ (k))), some (.inl (iZ (v)))], [], M) = _; rw [xfix_unf, sX9_fits_0]
        simp (disch := omega) only [xk_none, xk_inl, xk_inr, xk_ite, xri_v, xrl_v, xrv_v, xb_z0, xb_z1, xb_b2, if_true, if_false, ite_true, ite_false, iZ_lit, iZ_m1, iZ_m99, iZ_m8, iZ_add, iZ_sub, iZ_mul, iZ_neg, nz0, nzi, iZ_lt, iZ_le, iZ_inj, b2_z, b2_o, ite_bPz, ite_bPo, xb_bP, iZ_xin, if_pos, ite_self, ↓reduceIte, Int.reduceAdd, Int.reduceSub, Int.reduceMul, Int.reduceNeg, Int.reduceLT, Int.reduceLE, if_neg, ek, iZ_clampN, h1]
