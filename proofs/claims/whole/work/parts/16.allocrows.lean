/-! Rows of the machine that makes cells -/
def yfc (kk : Nat) (ty : FieldType) : Bool := match kk, ty with
  | 0, .int => true
  | 3, .boolean => true
  | 2, .object _ => true
  | 2, .array _ => true
  | _, _ => false
def ycg : Prop := ∀ (ci : Nat) (C : String) (T : u_T) (N : Nat), vwCl[ci]? = some (C, T, N) → (fkX ci).length = N ∧ ∃ ty : Nat → FieldType, (∀ k, k < N → parseFieldDescriptor (T k).2.2.1 = some (ty k)) ∧ ∀ k kk, k < N → (fkX ci)[k]? = some kk → yfc kk (ty k) = true
theorem yfca {ci N : Nat} {ty : Nat → FieldType} (h : (List.range N).all (fun k => match (fkX ci)[k]? with
    | some kk => yfc kk (ty k)
    | none => true) = true) : ∀ k kk, k < N → (fkX ci)[k]? = some kk → yfc kk (ty k) = true := by
  intro k kk hk hf
  have := List.all_eq_true.mp h k (List.mem_range.mpr hk)
  rw [hf] at this
  exact this
theorem ylk0 : (List.range 7).all (fun k => match (fkX 0)[k]? with
    | some kk => yfc kk (tyX0 k)
    | none => true) = true := by decide +kernel
theorem ylk1 : (List.range 11).all (fun k => match (fkX 1)[k]? with
    | some kk => yfc kk (tyX1 k)
    | none => true) = true := by decide +kernel
theorem ylk2 : (List.range 9).all (fun k => match (fkX 2)[k]? with
    | some kk => yfc kk (tyX2 k)
    | none => true) = true := by decide +kernel
theorem ylk3 : (List.range 2).all (fun k => match (fkX 3)[k]? with
    | some kk => yfc kk (tyX3 k)
    | none => true) = true := by decide +kernel
theorem ylk4 : (List.range 10).all (fun k => match (fkX 4)[k]? with
    | some kk => yfc kk (tyX4 k)
    | none => true) = true := by decide +kernel
theorem ylk5 : (List.range 10).all (fun k => match (fkX 5)[k]? with
    | some kk => yfc kk (tyX5 k)
    | none => true) = true := by decide +kernel
theorem ylk6 : (List.range 1).all (fun k => match (fkX 6)[k]? with
    | some kk => yfc kk (tyX6 k)
    | none => true) = true := by decide +kernel
theorem ylk7 : (List.range 12).all (fun k => match (fkX 7)[k]? with
    | some kk => yfc kk (tyX7 k)
    | none => true) = true := by decide +kernel
theorem ylk8 : (List.range 8).all (fun k => match (fkX 8)[k]? with
    | some kk => yfc kk (tyX8 k)
    | none => true) = true := by decide +kernel
theorem ylk9 : (List.range 5).all (fun k => match (fkX 9)[k]? with
    | some kk => yfc kk (tyX9 k)
    | none => true) = true := by decide +kernel
theorem ylk10 : (List.range 7).all (fun k => match (fkX 10)[k]? with
    | some kk => yfc kk (tyX10 k)
    | none => true) = true := by decide +kernel
theorem ylk11 : (List.range 13).all (fun k => match (fkX 11)[k]? with
    | some kk => yfc kk (tyX11 k)
    | none => true) = true := by decide +kernel
theorem ylk12 : (List.range 83).all (fun k => match (fkX 12)[k]? with
    | some kk => yfc kk (tyX12 k)
    | none => true) = true := by decide +kernel
theorem ycg_ok : ycg := by
  intro ci C T N h
  match ci, h with
  | 0, h => cases h; exact ⟨by decide +kernel, tyX0, tyX0_ok, yfca ylk0⟩
  | 1, h => cases h; exact ⟨by decide +kernel, tyX1, tyX1_ok, yfca ylk1⟩
  | 2, h => cases h; exact ⟨by decide +kernel, tyX2, tyX2_ok, yfca ylk2⟩
  | 3, h => cases h; exact ⟨by decide +kernel, tyX3, tyX3_ok, yfca ylk3⟩
  | 4, h => cases h; exact ⟨by decide +kernel, tyX4, tyX4_ok, yfca ylk4⟩
  | 5, h => cases h; exact ⟨by decide +kernel, tyX5, tyX5_ok, yfca ylk5⟩
  | 6, h => cases h; exact ⟨by decide +kernel, tyX6, tyX6_ok, yfca ylk6⟩
  | 7, h => cases h; exact ⟨by decide +kernel, tyX7, tyX7_ok, yfca ylk7⟩
  | 8, h => cases h; exact ⟨by decide +kernel, tyX8, tyX8_ok, yfca ylk8⟩
  | 9, h => cases h; exact ⟨by decide +kernel, tyX9, tyX9_ok, yfca ylk9⟩
  | 10, h => cases h; exact ⟨by decide +kernel, tyX10, tyX10_ok, yfca ylk10⟩
  | 11, h => cases h; exact ⟨by decide +kernel, tyX11, tyX11_ok, yfca ylk11⟩
  | 12, h => cases h; exact ⟨by decide +kernel, tyX12, tyX12_ok, yfca ylk12⟩
  | n + 13, h => cases h
theorem yfc_i {ty : FieldType} (h : yfc 0 ty = true) : ty = .int := by cases ty <;> simp [yfc] at h ⊢
theorem yfc_z {ty : FieldType} (h : yfc 3 ty = true) : ty = .boolean := by cases ty <;> simp [yfc] at h ⊢
theorem yfc_r {ty : FieldType} (h : yfc 2 ty = true) (a : Nat) : narrow ty (.ref a) = .ref a ∧ fits ty (.ref a) = true ∧ defaultValue ty = .null := by
  cases ty <;> simp [yfc] at h <;> exact ⟨rfl, rfl, rfl⟩
theorem yfc_k {kk : Nat} {ty : FieldType} (h : yfc kk ty = true) : kk = 0 ∨ kk = 2 ∨ kk = 3 := by
  unfold yfc at h
  split at h <;> simp at h ⊢
theorem yAt.kept {b : Nat} {D : xD} {a : Nat} {k : yK} {H H' : Heap} (h : yAt b D a k H) (hq : H'[a]? = H[a]?) : yAt b D a k H' := by
  obtain ⟨c, n, vs⟩ := k
  cases c with
  | zero =>
    obtain ⟨q, h1, h2, h3⟩ := h
    exact ⟨q, h1, h2, h3.kept hq⟩
  | succ c => exact ⟨hq.trans h.1, h.2⟩
theorem yH.set {b : Nat} {D : xD} {m : List yK} {H H' : Heap} {o : Nat} {k k' : yK} (h : yH b D m H) (ho : m[o]? = some k) (hk : yAt b D (b + o) k' H') (hz : H'.size = H.size) (hq : ∀ q : Nat, q ≠ b + o → H'[q]? = H[q]?) : yH b D (m.set o k') H' := by
  have hl := (List.getElem?_eq_some_iff.mp ho).1
  refine ⟨by rw [hz, List.length_set]; exact h.1, fun i k2 hi => ?_⟩
  by_cases e : i = o
  · subst e
    rw [List.getElem?_set_self hl] at hi
    cases hi
    exact hk
  · rw [List.getElem?_set_ne (Ne.symm e)] at hi
    exact (h.2 i k2 hi).kept (hq _ (by omega))
theorem yH.push {b : Nat} {D : xD} {m : List yK} {H H' : Heap} {k : yK} (h : yH b D m H) (hk : yAt b D H.size k H') (hz : H'.size = H.size + 1) (hq : ∀ q : Nat, q < H.size → H'[q]? = H[q]?) : yH b D (m ++ [k]) H' := by
  refine ⟨by rw [hz, h.1, List.length_append]; rfl, fun i k2 hi => ?_⟩
  by_cases e : i < m.length
  · rw [List.getElem?_append_left e] at hi
    exact (h.2 i k2 hi).kept (hq _ (by rw [h.1]; omega))
  · rw [List.getElem?_append_right (by omega)] at hi
    have : i - m.length < 1 := (List.getElem?_eq_some_iff.mp hi).1
    have e2 : i = m.length := by omega
    subst e2
    rw [Nat.sub_self] at hi
    cases hi
    rw [← h.1]
    exact hk
theorem yFr.put {b : Nat} {H0 H H' : Heap} {locs : List Loc} {a k : Nat} (h : yFr b H0 H locs) (ha : b ≤ a) (z : H'.size = H.size) (ho : ∀ q : Nat, q ≠ a → H'[q]? = H[q]?) : yFr b H0 H' (locs ++ [⟨a, k⟩]) := by
  refine ⟨by rw [z]; exact h.1, h.2.1, fun q hq => ?_, fun l hl => ?_⟩
  · rw [ho q (by omega)]; exact h.2.2.1 q hq
  · rcases List.mem_append.mp hl with h1 | h1
    · exact h.2.2.2 l h1
    · rw [List.mem_singleton.mp h1]; exact ha
theorem yFr.push {b : Nat} {H0 H H' : Heap} {locs : List Loc} (h : yFr b H0 H locs) (z : H'.size = H.size + 1) (ho : ∀ q : Nat, q < H.size → H'[q]? = H[q]?) : yFr b H0 H' locs :=
  ⟨by rw [z]; have := h.1; omega, h.2.1, fun q hq => by rw [ho q (by have := h.1; have := h.2.1; omega)]; exact h.2.2.1 q hq, h.2.2.2⟩
theorem yE_ok {r : xR} : xok yE (.inr (.inr r)) ↔ r.2 < 1000000 := Iff.rfl
theorem ydef {kk : Nat} {ty : FieldType} (h : yfc kk ty = true) (b : Nat) : defaultValue ty = yc b (ybd kk) := by
  rcases yfc_k h with e | e | e <;> subst e
  · rw [yfc_i h]; rfl
  · exact (yfc_r h 0).2.2
  · rw [yfc_z h]; rfl
section
variable {D : xD} {b : Nat} {p : Program} {l : Launch} {e : Env} {d mc ms : Nat} {s : State} {m : MethodId} {args : Array Value} {below : List Frame} {meth : Method} {c : Code} {cc : ByteArray} {nL : Nat} {own : String} {Q : State → Prop}
variable {pc : Nat} {mem : List yK} {H : Heap} {locs : List Loc} {ls : Array Slot} {rest : List Value} {cells slots : Nat}
theorem yr_put (hG : ycg) (hG2 : xcg) (hC : yCx D p s m args meth c cc nL own) {idx ci f kk : Nat} (hf : yfo own (idx, ci, f, kk)) (hdg : decode cc pc = .ok (.putfield idx, 3)) {o : Nat} {vs : List (Option xV)} (ho : mem[o]? = some (0, ci, vs)) {v : xV}
    (hv : (kk = 0 ∧ ∃ x, v = .inl x) ∨ (kk = 2 ∧ ∃ r, v = .inr (.inr r)) ∨ (kk = 3 ∧ (v = .inl 0 ∨ v = .inl 1))) (hW : yH b D mem H) (hF : yFr b s.heap H locs)
    (k : ∀ (H' : Heap) (locs' : List Loc), yH b D (mem.set o (0, ci, vs.set f (some v))) H' → yFr b s.heap H' locs' → W p l e (yrm d mc ms) s m args below meth c H' locs' cells slots Q (F0 m (pc + 3) ls rest)) : W p l e (yrm d mc ms) s m args below meth c H locs cells slots Q (F0 m pc ls (xc (yad b) v :: .ref (b + o) :: rest)) := by
  obtain ⟨hx, hb, hml, hown, hts, hlk, hin2, -, hKn, -⟩ := hC
  obtain ⟨C, T, N, g1, g2, g3, g4, g5, g6⟩ := hf
  dsimp only at g1 g2 g3 g4 g5 g6
  obtain ⟨q, q1, qlen, cell, c1, c2, c3, c4⟩ := hW.2 o _ ho
  have hq : q = (C, T, N) := Option.some.inj (q1.symm.trans g1)
  subst hq
  obtain ⟨hin, -, hnm⟩ := hG2 ci C T N g1
  obtain ⟨-, ty0, hty0, hkm⟩ := hG ci C T N g1
  have hKa : va_K (D.1, D.2.1) vwCl [] s := ⟨hKn, fun k q h => by simp at h⟩
  have hap := va_apart (own := own) hts hin ty0 hty0 hnm hKa g1
  obtain ⟨hS, hfc, kC, hkC, hkind⟩ := hKn ci _ g1
  obtain ⟨cf, kf, fi, fd, hi, hsl⟩ := hS f g2
  dsimp only at hi hsl c2 c4 hfc qlen
  have hst := (u_facts hfc hkC (u_lays hts hin g2) hi).1
  have hfit : narrow (ty0 f) (xc (yad b) v) = xc (yad b) v ∧ fits (ty0 f) (xc (yad b) v) = true := by
    have h1 := hkm f kk g2 g4
    rcases hv with ⟨e1, x, rfl⟩ | ⟨e1, r, rfl⟩ | ⟨e1, e2⟩ <;> subst e1
    · rw [yfc_i h1]; exact ⟨rfl, rfl⟩
    · exact ⟨(yfc_r h1 _).1, (yfc_r h1 _).2.1⟩
    · rw [yfc_z h1]; rcases e2 with rfl | rfl <;> exact ⟨rfl, rfl⟩
  have fin : ∀ H' : Heap, H'[b + o]? = some (cell.setSlot fd.slot (xc (yad b) v)) → H'.size = H.size → (∀ q, q ≠ b + o → H'[q]? = H[q]?) → W p l e (yrm d mc ms) s m args below meth c H' (locs ++ [⟨b + o, fd.slot⟩]) cells slots Q (F0 m (pc + 3) ls rest) := by
    intro H' e1 e2 e3
    rw [hsl] at e1
    refine k H' _ (hW.set ho ⟨_, g1, by rw [List.length_set]; exact qlen, ?_⟩ e2 e3) (hF.put (by omega) e2 e3)
    refine t_OB.to (V := updV (fun f => yc b (vs.getD f none)) f (xc (yad b) v)) ⟨_, e1, c2, c3, t_set c4 hap g2 _⟩ (fun j hj => ?_)
    unfold updV
    have hl : f < vs.length := by rw [qlen]; exact g2
    show (if j = f then xc (yad b) v else yc b (vs.getD j none)) = yc b ((vs.set f (some v)).getD j none)
    by_cases e : j = f
    · subst e
      rw [if_pos rfl, List.getD_eq_getElem?_getD, List.getElem?_set_self hl]
      rfl
    · rw [if_neg e, List.getD_eq_getElem?_getD, List.getD_eq_getElem?_getD, List.getElem?_set_ne (Ne.symm e)]
  by_cases hfn : (T f).2.2.2 = true
  · have hlay := hts _ (hin _ (u_in_lay g2))
    unfold u_lay at hlay
    rw [if_pos hfn] at hlay
    have hcf : m.cls = cf := by
      obtain ⟨_, _, c', _, _, _, -, -, hf', -, -, -, hown2, -⟩ := Cond.laysFinal_spec hlay
      have e1 : c' = cf := by have := hi.symm.trans hf'; simp at this; exact this.1.symm
      rw [g5, g6] at hown2
      rw [← e1]; exact Option.some.inj (hown.symm.trans hown2)
    have h6 := u_fits hfc hkC hkind (Or.inr hlay) hi (hty0 f g2) hfit.1 hfit.2
    rw [g5] at hi
    exact W.putFinK hx hb hown (hts _ g3) hi hst hcf hin2 (by rw [c2]; exact h6) c1 c3 (by rw [hsl]; exact k2_hasslot (c4 f g2)) rfl rfl hdg fin
  · have hlay := hts _ (hin _ (u_in_lay g2))
    unfold u_lay at hlay
    rw [if_neg hfn] at hlay
    have h6 := u_store hfc hkC hkind hlay hi (hty0 f g2) hfit.1 hfit.2
    rw [g5] at hi
    exact W.putK hx hb (f := fd) ⟨hown, hts _ g3, ⟨_, _, _, hi⟩, hst⟩ (by rw [c2]; exact h6) c1 c3 (by rw [hsl]; exact k2_hasslot (c4 f g2)) rfl rfl hdg fin
theorem yr_get (hG2 : xcg) (hC : yCx D p s m args meth c cc nL own) {idx ci f kk : Nat} (hf : yfo own (idx, ci, f, kk)) (hdg : decode cc pc = .ok (.getfield idx, 3)) {o : Nat} {vs : List (Option xV)} (ho : mem[o]? = some (0, ci, vs)) {v : xV} (hv : vs[f]? = some (some v)) (hW : yH b D mem H)
    (k : W p l e (yrm d mc ms) s m args below meth c H locs cells slots Q (F0 m (pc + 3) ls (xc (yad b) v :: rest))) : W p l e (yrm d mc ms) s m args below meth c H locs cells slots Q (F0 m pc ls (.ref (b + o) :: rest)) := by
  obtain ⟨hx, hb, hml, hown, hts, hlk, hin2, -, hKn, -⟩ := hC
  obtain ⟨C, T, N, g1, g2, g3, g4, g5, g6⟩ := hf
  dsimp only at g1 g2 g3 g4 g5 g6
  obtain ⟨q, q1, qlen, cell, c1, c2, c3, c4⟩ := hW.2 o _ ho
  have hq : q = (C, T, N) := Option.some.inj (q1.symm.trans g1)
  subst hq
  have hin := (hG2 ci C T N g1).1
  obtain ⟨hS, hfc, kC, hkC, hkind⟩ := hKn ci _ g1
  obtain ⟨cf, kf, fi, fd, hi, hsl⟩ := hS f g2
  dsimp only at hi hsl c4 hfc
  have hst := (u_facts hfc hkC (u_lays hts hin g2) hi).1
  have hslot : cell.slots[fd.slot]? = some (xc (yad b) v) := by
    rw [hsl, c4 f g2, List.getD_eq_getElem?_getD, hv]
    rfl
  rw [g5] at hi
  exact W.getf hx hb hown (hts _ g3) hi hst c1 (by rw [c3]; exact fun h => by cases h) hslot rfl rfl hdg k
theorem yr_new (hG : ycg) (hG2 : xcg) (hC : yCx D p s m args meth c cc nL own) {idx ci : Nat} (hn : ynt own (idx, ci)) (hdg : decode cc pc = .ok (.new idx, 3)) (hW : yH b D mem H) (hF : yFr b s.heap H locs) (hc1 : cells + 1 ≤ mc) (hs1 : slots + (fkX ci).length ≤ ms)
    (k : ∀ H' : Heap, yH b D (mem ++ [(0, ci, ybl ci)]) H' → yFr b s.heap H' locs → W p l e (yrm d mc ms) s m args below meth c H' locs (cells + 1) (slots + (fkX ci).length) Q (F0 m (pc + 3) ls (.ref (b + mem.length) :: rest))) : W p l e (yrm d mc ms) s m args below meth c H locs cells slots Q (F0 m pc ls rest) := by
  obtain ⟨hx, hb, hml, hown, hts, hlk, hin2, -, hKn, -⟩ := hC
  obtain ⟨C, T, N, g1, g2, ⟨g3, g4⟩, g5⟩ := hn
  dsimp only at g1 g2 g3 g4 g5
  subst g5
  have hin := (hG2 ci C T _ g1).1
  obtain ⟨-, ty0, hty0, hkm⟩ := hG ci C T _ g1
  have hK1 := hKn ci _ g1
  refine W.newcK hx hb hown (hts _ g2) (hts _ g3) (hts _ g4) rfl hdg hc1 hs1 hK1.2.1 hW.1 fun H' kC hkC e1 z1 o1 => ?_
  rw [← hW.1] at e1 z1 o1
  refine k H' (hW.push ⟨_, g1, by simp [ybl], (u_born ty0 hts hin hK1 hkC e1 hty0).to (fun j hj => ?_)⟩ z1 o1) (hF.push z1 o1)
  dsimp only at hj ⊢
  have hj2 : (fkX ci)[j]? = some (fkX ci)[j] := List.getElem?_eq_getElem hj
  show defaultValue (ty0 j) = yc b ((ybl ci).getD j none)
  rw [ydef (hkm j _ hj hj2) b, ybl, List.getD_eq_getElem?_getD, List.getElem?_map, hj2]
  rfl
theorem yr_arr (hC : yCx D p s m args meth c cc nL own) {ty : ArrayType} (hdg : decode cc pc = .ok (.newarray ty, 2)) (hty : yty ty ≤ 4) {n : Int32} (hn : 0 ≤ n) (hn2 : n.toNatClampNeg ≤ 10000) (harr : ∀ t, Cond.arrayClass (newarray.typeOf ty) = t → t ∈ xTB) (hW : yH b D mem H) (hF : yFr b s.heap H locs) (hc1 : cells + 1 ≤ mc) (hs1 : slots + n.toNatClampNeg ≤ ms)
    (k : ∀ H' : Heap, yH b D (mem ++ [(yty ty, n.toNatClampNeg, List.replicate n.toNatClampNeg (ydf (yty ty)))]) H' → yFr b s.heap H' locs → W p l e (yrm d mc ms) s m args below meth c H' locs (cells + 1) (slots + n.toNatClampNeg) Q (F0 m (pc + 2) ls (.ref (b + mem.length) :: rest))) : W p l e (yrm d mc ms) s m args below meth c H locs cells slots Q (F0 m pc ls (.int n :: rest)) := by
  obtain ⟨hx, hb, hml, hown, hts, hlk, hin2, -, hKn, ⟨a1, a2, a3, a4, a5⟩, -⟩ := hC
  refine va_newaK hx hb (hts _ (harr _ rfl)) rfl hdg rfl (Int32.not_lt.mpr hn) rfl (by cases ty <;> simp [componentBytes, newarray.typeOf] <;> omega) hc1 hs1 hW.1 fun H' cA e1 z1 o1 hA hNm => ?_
  rw [← hW.1] at e1 z1 o1
  have key : ∀ (cd : Nat) (t : FieldType), newarray.typeOf ty = t → yty ty = cd + 1 → s.vm.findClass ("[" ++ t.toString) = some (D.2.2 (cd + 1)) → defaultValue t = yc b (ydf (cd + 1)) → yAt b D H.size (yty ty, n.toNatClampNeg, List.replicate n.toNatClampNeg (ydf (yty ty))) H' := by
    intro cd t ht hcd hfc hdv
    rw [ht] at e1 hNm
    rw [hcd]
    refine ⟨?_, by simp⟩
    rw [e1]
    have hc : cA = D.2.2 (cd + 1) := Option.some.inj (hNm.symm.trans hfc)
    rw [hc, hdv]
    congr 2
    funext j
    rw [List.getD_eq_getElem?_getD, List.getElem?_replicate]
    split <;> rfl
  refine k H' (hW.push ?_ z1 o1) (hF.push z1 o1)
  cases ty with
  | int => exact key 0 .int rfl rfl a1.2 rfl
  | long => exact key 1 .long rfl rfl a2.2 rfl
  | byte => exact key 2 .byte rfl rfl a3.2 rfl
  | boolean => exact key 3 .boolean rfl rfl a4.2 rfl
  | _ => exact absurd hty (by decide)
theorem yr_anew (hC : yCx D p s m args meth c cc nL own) {idx : Nat} (hn : ynt own (idx, 6)) (hdg : decode cc pc = .ok (.anewarray idx, 3)) {n : Int32} (hn0 : 0 ≤ n) (hn2 : n.toNatClampNeg ≤ 10000) (hW : yH b D mem H) (hF : yFr b s.heap H locs) (hc1 : cells + 1 ≤ mc) (hs1 : slots + n.toNatClampNeg ≤ ms)
    (k : ∀ H' : Heap, yH b D (mem ++ [(5, n.toNatClampNeg, List.replicate n.toNatClampNeg none)]) H' → yFr b s.heap H' locs → W p l e (yrm d mc ms) s m args below meth c H' locs (cells + 1) (slots + n.toNatClampNeg) Q (F0 m (pc + 3) ls (.ref (b + mem.length) :: rest))) : W p l e (yrm d mc ms) s m args below meth c H locs cells slots Q (F0 m pc ls (.int n :: rest)) := by
  obtain ⟨hx, hb, hml, hown, hts, hlk, hin2, -, hKn, ⟨a1, a2, a3, a4, a5⟩, -, hAO⟩ := hC
  obtain ⟨C, T, N, g1, g2, -, -⟩ := hn
  have hC6 : C = RX6 := by cases g1; rfl
  subst hC6
  refine W.anew hx hb hown (hts _ g2) (va_AO.use hAO) rfl hdg rfl (Int32.not_lt.mpr hn0) (by omega) hc1 hs1 fun cA kA comp f1 f2 f3 f4 => ?_
  generalize hH1 : H.push ({ cls := cA, slots := Array.replicate n.toNatClampNeg .null, vm := .none } : Cell) = H1
  have z1 : H1.size = H.size + 1 := by rw [← hH1, Array.size_push]
  have e1 : H1[H.size]? = some (arrV cA n.toNatClampNeg (fun _ => .null)) := by rw [← hH1, Array.getElem?_push_size, ← arrV_new]
  have o1 : ∀ q : Nat, q < H.size → H1[q]? = H[q]? := fun q hq => by rw [← hH1, Array.getElem?_push, if_neg (Nat.ne_of_lt hq)]
  rw [← hW.1] at k
  refine k H1 (hW.push ⟨?_, by simp⟩ z1 o1) (hF.push z1 o1)
  obtain ⟨-, kA2, comp2, -, -, -, r4⟩ := a5
  have hc : cA = D.2.2 5 := Option.some.inj (f1.symm.trans r4)
  rw [e1, hc]
  congr 2
  funext j
  rw [List.getD_eq_getElem?_getD, List.getElem?_replicate]
  split <;> rfl
theorem yr_iast (hC : yCx D p s m args meth c cc nL own) (hdg : decode cc pc = .ok (.iastore, 1)) {o n : Nat} {vs : List (Option xV)} (ho : mem[o]? = some (1, n, vs)) {j v : Int32} (h0 : 0 ≤ j) (h1 : j.toNatClampNeg < n) (hW : yH b D mem H) (hF : yFr b s.heap H locs)
    (k : ∀ (H' : Heap) (locs' : List Loc), yH b D (mem.set o (1, n, vs.set j.toNatClampNeg (some (.inl v)))) H' → yFr b s.heap H' locs' → W p l e (yrm d mc ms) s m args below meth c H' locs' cells slots Q (F0 m (pc + 1) ls rest)) : W p l e (yrm d mc ms) s m args below meth c H locs cells slots Q (F0 m pc ls (.int v :: .int j :: .ref (b + o) :: rest)) := by
  obtain ⟨hx, hb, hml, hown, hts, hlk, hin2, -, hKn, ⟨a1, a2, a3, a4, a5⟩, -⟩ := hC
  obtain ⟨hA, hl⟩ := hW.2 o _ ho
  refine W.iast hx hb hA (a1.1 n _) (fun q => by cases q) (xr_idx ⟨Int32.not_lt.mpr h0, h1⟩) rfl rfl hdg fun H' e1 e2 e3 => k H' _ (hW.set ho ⟨?_, by simpa using hl⟩ e2 e3) (hF.put (by omega) e2 e3)
  rw [e1, arrV_store]
  congr 2
  funext q
  unfold updV
  dsimp only at hl ⊢
  by_cases hq : q = j.toNatClampNeg
  · subst hq
    rw [if_pos rfl, List.getD_eq_getElem?_getD, List.getElem?_set_self (by omega)]
    rfl
  · rw [if_neg hq, List.getD_eq_getElem?_getD, List.getD_eq_getElem?_getD, List.getElem?_set_ne (Ne.symm hq)]
theorem yr_aast (hC : yCx D p s m args meth c cc nL own) (hdg : decode cc pc = .ok (.aastore, 1)) {o n : Nat} {vs ws : List (Option xV)} (ho : mem[o]? = some (5, n, vs)) {j : Int32} {v : xR} (hv : mem[v.2]? = some (0, 6, ws)) (h0 : 0 ≤ j) (h1 : j.toNatClampNeg < n) (hW : yH b D mem H) (hF : yFr b s.heap H locs)
    (k : ∀ (H' : Heap) (locs' : List Loc), yH b D (mem.set o (5, n, vs.set j.toNatClampNeg (some (.inr (.inr v))))) H' → yFr b s.heap H' locs' → W p l e (yrm d mc ms) s m args below meth c H' locs' cells slots Q (F0 m (pc + 1) ls rest)) : W p l e (yrm d mc ms) s m args below meth c H locs cells slots Q (F0 m pc ls (.ref (b + v.2) :: .int j :: .ref (b + o) :: rest)) := by
  obtain ⟨hx, hb, hml, hown, hts, hlk, hin2, -, hKn, ⟨a1, a2, a3, a4, a5⟩, -⟩ := hC
  obtain ⟨hA, hl⟩ := hW.2 o _ ho
  obtain ⟨q, q1, qlen, cell, c1, c2, c3, c4⟩ := hW.2 v.2 _ hv
  have hcls := (hKn 6 _ q1).2
  have hq6 : q = (RX6, TX6, 1) := Option.some.inj (q1.symm.trans (show vwCl[6]? = some (RX6, TX6, 1) from rfl))
  subst hq6
  obtain ⟨-, kA, comp, k1, k2, k3, -⟩ := a5
  have hcomp : comp = D.1 6 := Option.some.inj (k3.symm.trans hcls.1)
  subst hcomp
  obtain ⟨kC, hkC, -⟩ := hcls.2
  refine W.aast hx hb hA (fun q h => by cases h) (fun h => by cases h) k1 k2 rfl hkC ⟨Int32.not_lt.mpr h0, by rw [arrV_size]; exact h1⟩ c1 (fun q h => by rw [c3] at h; cases h) (by rw [c2]; exact hkC) (by rw [c2]; exact va_assign hcls) rfl rfl hdg fun H' e1 e2 e3 => k H' _ (hW.set ho ⟨?_, by simpa using hl⟩ e2 e3) (hF.put (by omega) e2 e3)
  rw [e1, arrV_store]
  congr 2
  funext q
  unfold updV
  dsimp only at hl ⊢
  by_cases hq : q = j.toNatClampNeg
  · subst hq
    rw [if_pos rfl, List.getD_eq_getElem?_getD, List.getElem?_set_self (by omega)]
    rfl
  · rw [if_neg hq, List.getD_eq_getElem?_getD, List.getD_eq_getElem?_getD, List.getElem?_set_ne (Ne.symm hq)]
end
