/-! both sides, call by call -/
def zInv (MX MM : xM) : Prop := ∃ A S, mZ MM A S ∧ cZ MX A S
section
variable {oX oM : Option (Option xV × xM)} {A : dA} {S : dS}
theorem stI {x : Int32} (hm : zR oM (.inl x) A S) (hx : cQ A S oX (.inl x)) : ∃ (r : xV) (MX' MM' : xM), (∃ x, r = .inl x) ∧ oX = some (some r, MX') ∧ oM = some (some r, MM') ∧ zInv MX' MM' := by
  obtain ⟨M1, a1, a2⟩ := hm
  obtain ⟨M2, b1, b2⟩ := hx
  exact ⟨_, M2, M1, ⟨_, rfl⟩, b1, a1, A, S, a2, b2⟩
theorem stL {x : Int64} (hm : zR oM (.inr (.inl x)) A S) (hx : cQ A S oX (.inr (.inl x))) : ∃ (r : xV) (MX' MM' : xM), (∃ x, r = .inr (.inl x)) ∧ oX = some (some r, MX') ∧ oM = some (some r, MM') ∧ zInv MX' MM' := by
  obtain ⟨M1, a1, a2⟩ := hm
  obtain ⟨M2, b1, b2⟩ := hx
  exact ⟨_, M2, M1, ⟨_, rfl⟩, b1, a1, A, S, a2, b2⟩
end
theorem z_arg (a : Int32) : ∃ v, a = iZ v ∧ r32 v := ⟨a.toInt, (iZ_of a).symm, Int32.le_toInt a, Int32.toInt_lt a⟩
theorem z_bit (a : Int32) : ∃ b : Bool, (if a = 0 then (0 : Int32) else 1) = bP (b = true) := by
  by_cases e : a = 0
  · refine ⟨false, ?_⟩
    rw [if_pos e]
    exact (bP_f (c := false = true) (by decide)).symm
  · refine ⟨true, ?_⟩
    rw [if_neg e]
    exact (bP_t (c := true = true) rfl).symm
theorem zInv_step {MX MM : xM} (h : zInv MX MM) (c : Nat) (hc : c < 33) (a1 a2 a3 a4 a5 : Int32) : ∃ (r : xV) (MX' MM' : xM), (if zlong c then ∃ y, r = .inr (.inl y) else ∃ x, r = .inl x) ∧ zX c a1 a2 a3 a4 a5 MX = some (some r, MX') ∧ zM c a1 a2 a3 a4 a5 MM = some (some r, MM') ∧ zInv MX' MM' := by
  obtain ⟨A, S, hm, hx⟩ := h
  have hA : aOk A := hm.1.A.ok
  have hO : stO A S := hm.2.2.1
  have hF : aFl A := hm.2.2.2
  have hj : -1 ≤ (sJ S).1 ∧ (sJ S).1 ≤ 100 := by
    rcases hx.rc with ⟨z, _⟩ | ⟨⟨z, _⟩, _⟩
    · rw [z]; omega
    · omega
  obtain ⟨b2, eb2⟩ := z_bit a2
  obtain ⟨b3, eb3⟩ := z_bit a3
  obtain ⟨v1, e1, r1⟩ := z_arg a1
  obtain ⟨v2, e2, r2⟩ := z_arg a2
  obtain ⟨v3, e3, r3⟩ := z_arg a3
  obtain ⟨v4, e4, r4⟩ := z_arg a4
  match c, hc with
  | 0, _ => exact stI (z_feed hm a1 a2 a3 a4 a5) (c_feed hx a1 a2 a3 a4 a5)
  | 1, _ => subst e1; exact stI (z_end hm r1) (c_end hx r1)
  | 2, _ =>
    have z := z_thing hm
    have ok : aOk (tTh A S).2.1 := by
      obtain ⟨M', _, q⟩ := z
      exact q.1.A.ok
    exact stI z (c_thing ok hx)
  | 3, _ => subst e1; exact stI (z_fault hm r1) (c_fault hx r1)
  | 4, _ => subst e1; subst e2; subst e3; exact stI ((q_cell hm.1 r1 r2 r3).z hm) (c_cell hA hx r1 r2 r3)
  | 5, _ => subst e1; subst e2; exact stI ((q_bars hm.1 r1 r2).z hm) (c_bars hx r1 r2)
  | 6, _ => subst e1; subst e2; exact stI (z_price hm r1 r2) (c_price hx r1 r2)
  | 7, _ =>
    subst e1
    unfold zX zM
    rw [eb2]
    exact stI (z_bent hm r1 b2) (c_bent hA hx r1 b2)
  | 8, _ => subst e1; subst e2; subst e3; exact stI ((q_cut hm.1 r1 r2 r3).z hm) (c_cut hA hx r1 r2 r3)
  | 9, _ => subst e1; subst e2; exact stL ((q_heap hm.1 r1 r2).z hm) (c_heap hA hF hx r1 r2)
  | 10, _ => subst e1; exact stI ((q_net hm.1 r1).z hm) (c_net hA hF hx r1)
  | 11, _ => subst e1; subst e2; exact stI ((q_plan hm.1 r1 r2).z hm) (c_plan hA hF hx r1 r2)
  | 12, _ => subst e1; subst e2; subst e3; exact stI ((q_ring hm.1 r1 r2 r3).z hm) (c_ring hA hx r1 r2 r3)
  | 13, _ => subst e1; exact stI ((q_missing hm.1 r1).z hm) (c_missing hA hF hx r1)
  | 14, _ => subst e1; exact stI ((q_down hm.1 r1).z hm) (c_down hA hx r1)
  | 15, _ => subst e1; subst e2; subst e3; exact stL ((q_inOne hm.1 r1 r2 r3).z hm) (c_inOne hA hF hx r1 r2 r3)
  | 16, _ => subst e1; subst e2; subst e3; exact stI ((q_view hm.1 r1 r2 r3).z hm) (c_view hA hx r1 r2 r3)
  | 17, _ => subst e1; subst e2; exact stI ((q_moves hm.1 r1 r2).z hm) (c_moves hA hx r1 r2)
  | 18, _ => subst e1; subst e2; exact stI (z_apart hm r1 r2) (c_apart hA hO hx r1 r2)
  | 19, _ => subst e1; exact stI (z_where hm r1) (c_where hx r1)
  | 20, _ => exact stI (z_together hm) (c_together hx)
  | 21, _ =>
    subst e1
    subst e2
    unfold zX zM
    rw [eb3]
    exact stI (z_swollen hm r1 r2 b3) (c_swollen hA hx r1 r2 b3)
  | 22, _ => subst e1; exact stL ((q_safe hm.1 r1).z hm) (c_safe hA hF hx r1)
  | 23, _ => subst e1; subst e2; subst e3; exact stI ((q_safeCut hm.1 r1 r2 r3).z hm) (c_safeCut hA hx r1 r2 r3)
  | 24, _ => subst e1; exact stI ((q_holding hm.1 r1).z hm) (c_holding hA hF hx r1)
  | 25, _ => subst e1; exact stL ((q_oneByOne hm.1 r1).z hm) (c_oneByOne hA hx r1)
  | 26, _ => exact stI (z_record hm).1 (c_record hA hO hx)
  | 27, _ => subst e1; exact stI (z_judged hm hj r1) (c_judged hx r1)
  | 28, _ => subst e1; subst e2; subst e3; subst e4; exact stI ((q_pull hm.1 r1 r2 r3 r4).z hm) (c_pull hA hx r1 r2 r3 r4)
  | 29, _ => subst e1; subst e2; subst e3; exact stI ((q_like hm.1 r1 r2 r3).z hm) (c_like hA hF hx r1 r2 r3)
  | 30, _ => subst e1; subst e2; exact stI ((q_mirrored hm.1 r1 r2).z hm) (c_mirrored hA hF hx r1 r2)
  | 31, _ => subst e1; subst e2; subst e3; exact stI ((q_minutes hm.1 r1 r2 r3).z hm) (c_minutes hA hF hx r1 r2 r3)
  | 32, _ => subst e1; subst e2; exact stI ((q_time hm.1 r1 r2).z hm) (c_time hA hF hx r1 r2)
  | n + 33, hc => omega
theorem zInv_sim : ∀ (n : Nat) (MX MM : xM), zInv MX MM → zSim n MX MM
  | 0, _, _, _ => trivial
  | n + 1, MX, MM, h => fun c hc a1 a2 a3 a4 a5 => by
    obtain ⟨r, MX', MM', t, x, m, i⟩ := zInv_step h c hc a1 a2 a3 a4 a5
    exact ⟨r, MX', MM', t, x, m, zInv_sim n MX' MM' i⟩
