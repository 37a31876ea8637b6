/-! Calls -/
theorem xEn.to {E : xE} {D : xD} {ad : xAd} {s U : State} (hal : s.vm.Alike U.vm) (hnw : ∀ w ∈ xNw, va_Nw w s → va_Nw w U) (hR : ∀ own k tx a, vk_R own k tx a s → vk_R own k tx a U) (hh : ∀ q : Nat, ¬ xOwn E ad q → U.heap[q]? = s.heap[q]?) (h : xEn E D ad s) : xEn E D ad U := by
  obtain ⟨h1, ⟨a1, a2, a3, a4, a5⟩, h3, h4, h5, adV, h6, h7, h8⟩ := h
  refine ⟨fun c q hq => u_Kn_moved hal (h1 c q hq), ⟨arrOfT_moved hal a1, arrOfT_moved hal a2, arrOfT_moved hal a3, arrOfT_moved hal a4, arrOfT_moved hal a5⟩, fun w hw => hnw w hw (h3 w hw), fun q hq => hR _ _ _ _ (h4 q hq), h5, adV, ?_, ?_, ?_⟩
  · exact (vk_S.moved hal h6).kept (fun a _ ha => hh a ha)
  · exact (va_Z.moved hal h7).kept (fun a _ ha => hh a ha)
  · exact (va_Zq.moved hal h8).kept (fun a _ ha => hh a ha)
set_option maxRecDepth 20000 in
theorem xNw_warm {s U : State} (hW : s.WarmedH U.vm) : ∀ w ∈ xNw, va_Nw w s → va_Nw w U := by
  intro w hw h
  simp only [xNw, List.mem_cons, List.not_mem_nil, or_false] at hw
  rcases hw with rfl | rfl | rfl | rfl | rfl | rfl | rfl | rfl | rfl | rfl | rfl | rfl | rfl | rfl | rfl | rfl | rfl | rfl | rfl | rfl | rfl | rfl | rfl | rfl | rfl | rfl | rfl | rfl | rfl <;> first | exact va_Nw.warmF hW h | exact va_Nw.warmM hW h
set_option maxRecDepth 20000 in
theorem xNw_same {s U : State} (hv : s.vm = U.vm) : ∀ w ∈ xNw, va_Nw w s → va_Nw w U := by
  intro w hw h
  simp only [xNw, List.mem_cons, List.not_mem_nil, or_false] at hw
  rcases hw with rfl | rfl | rfl | rfl | rfl | rfl | rfl | rfl | rfl | rfl | rfl | rfl | rfl | rfl | rfl | rfl | rfl | rfl | rfl | rfl | rfl | rfl | rfl | rfl | rfl | rfl | rfl | rfl | rfl <;> exact va_Nw.same rfl hv h
theorem xEn.warm {E : xE} {D : xD} {ad : xAd} {s U : State} (hW : s.WarmedH U.vm) (hh : ∀ q : Nat, ¬ xOwn E ad q → U.heap[q]? = s.heap[q]?) (h : xEn E D ad s) : xEn E D ad U := h.to hW.alike (xNw_warm hW) (fun _ _ _ _ => vk_R.warm hW) hh
/-- what a callee needs at its start -/
def xPc (E : xE) (D : xD) (ad : xAd) (As : List xV) (M : xM) : Array Value → State → Prop := fun v U => v = (As.map (xc ad)).toArray ∧ xEn E D ad U ∧ xWd E D ad M U.heap
theorem xPc.blind {E : xE} {D : xD} {ad : xAd} {As : List xV} {M : xM} : FrameBlind (xPc E D ad As M) := by
  intro a U g mk ⟨h1, h2, h3⟩
  exact ⟨h1, h2.to (U := U.calling g mk a) (Vm.Alike.refl U.vm) (xNw_same rfl) (fun _ _ _ _ h => vk_R.same rfl h) (fun _ _ => rfl), h3⟩
theorem xgood {ws : List Cond} (h : ∀ w ∈ ws, w ∈ xTB) : GoodIn xTB ws := fun w hw => ⟨h w hw, good_of_word (List.mem_filter.mp (h w hw)).2⟩
section
variable {E : xE} {D : xD} {ad : xAd} {p : Program} {l : Launch} {e : Env} {d : Nat} {s : State} {m : MethodId} {args : Array Value} {below : List Frame} {meth : Method} {c : Code} {cc : ByteArray} {nL : Nat} {own : String} {Q : State → Prop}
/-- behind a call -/
theorem xgo {pc : Nat} {ls : Array Slot} {S As : List xV} {M M' : xM} {L : List (Option xV)} {r : Option xV} {H : Heap} {locs : List Loc} {a : Array Value} {st0 : List Value}
    (hr : va_Run p l e (xrm d) s m args below meth c H locs 0 0 0 0 (F0 m pc ls st0) (S.map (xc ad)) (xPo E D ad r M' a) (xOwn E ad)) (hF : xFr E ad s.heap H locs) (hl : xlv E ad ls nL L) (hS : ∀ v ∈ S, xok E v) (hro : ∀ v, r = some v → xok E v)
    (hw : xWf E D ad p l e d s m args below meth c nL Q (pc + 3) L (r.toList ++ S) M') : W p l e (xrm d) s m args below meth c H locs 0 0 Q (F0 m pc ls st0) := by
  intro T hT X
  obtain ⟨v, st₀, t, T', L', h0, X', hL, e1, e2, ⟨q1, q2, q3, q4⟩, st⟩ := hr T hT X
  have hv : v = r.map (xc ad) := Outcome.returned.inj q1
  subst hv
  rw [h0] at q3 q4
  have hS2 : ∀ v ∈ r.toList ++ S, xok E v := fun v hv => by
    rcases List.mem_append.mp hv with h | h
    · exact hro v (by simpa using h)
    · exact hS v h
  obtain ⟨t2, a1, b1⟩ := hw T'.heap (locs ++ L') ls (by rw [e1]; exact q2) ⟨by rw [e1, q3]; exact hF.1, fun q hq => by rw [e1, q4 q hq]; exact hF.2.1 q hq, fun q hq => by
    rcases List.mem_append.mp hq with h | h
    · exact hF.2.2 q h
    · exact hL q h⟩ hl hS2 T' rfl X'
  refine ⟨t2, st t2 ?_, b1⟩
  have : (r.map (xc ad)).toList ++ S.map (xc ad) = (r.toList ++ S).map (xc ad) := by cases r <;> simp
  rw [this]
  exact a1
theorem xEn.at {H : Heap} {locs : List Loc} (hEn : xEn E D ad s) (hF : xFr E ad s.heap H locs) {U : State} (hU : U.heap = H) (hW : s.WarmedH U.vm) : xEn E D ad U := hEn.warm hW (fun q hq => by rw [hU]; exact hF.2.1 q hq)
end
theorem xrc_inv {tag : Nat} {As : List xV} (h : xrc false tag As = true) : ∃ k As', As = .inr (.inr (tag, k)) :: As' := by
  unfold xrc at h
  simp only at h
  split at h
  · rename_i r As'
    have := Nat.eq_of_beq_eq_true h
    exact ⟨r.2, As', by rw [← this]⟩
  · cases h
/-- a method of an object -/
theorem xco_V {E : xE} {D : xD} {own : String} {d d2 idx tag ci n rk nL2 : Nat} {y : MethodName} {cc2 : ByteArray} {ret2 : Option FieldType} {f : xF} {C : String} {T : u_T} {N : Nat} (hEc : xEc E) (hM : xC E D y cc2 nL2 ret2 d2 f) (hd : d2 + 1 ≤ d ∧ nL2 ≤ 40) (hk : E.1 tag = (0, ci)) (hc : vwCl[ci]? = some (C, T, N))
    (h1 : Cond.methodLink own idx y ∈ xTB) (h2 : Cond.instanceMethod y ∈ xTB) (h3 : Cond.selects C y y ∈ xTB) (h4 : Cond.initialized C ∈ xTB) (h5 : Cond.code y cc2 nL2 ret2 ∈ xTB) (hy : y.cls = C ∧ y.cls ≠ "java/lang/invoke/MethodHandle" ∧ y.cls ≠ "java/lang/invoke/VarHandle" ∧ (parseMethodDescriptor y.desc).map (fun d => d.parameters.length) = some n) : xco E D own d (idx, false, tag, n + 1, rk, f) := by
  intro p l e s m args below meth c cc nL Q ad pc L S As M M' r hC hdg hf hn hcat hrc hro hw H locs ls hW hF hl hS
  obtain ⟨k, As', rfl⟩ := xrc_inv hrc
  have hC2 := hC
  obtain ⟨hx, hb, hml, hown, hts, hlk, hEn⟩ := hC2
  have hAs : ∀ v ∈ (.inr (.inr (tag, k)) :: As' : List xV), xok E v := fun v hv => hS v (List.mem_append_left _ (List.mem_reverse.mpr hv))
  have hvr : xvr E (tag, k) := ⟨hAs _ List.mem_cons_self, xr_99 hEc (r := (tag, k)) hk (by decide)⟩
  have hA := hW (tag, k) hvr
  unfold xAt at hA
  rw [hk] at hA
  obtain ⟨q, q1, cell, c1, c2, c3, c4⟩ := hA
  have hq : q = (C, T, N) := Option.some.inj (q1.symm.trans hc)
  subst hq
  obtain ⟨-, hfc, -⟩ := hEn.1 ci _ hc
  have hst : ((.inr (.inr (tag, k)) :: As' : List xV).reverse ++ S).map (xc ad) = (As'.map (xc ad)).reverse ++ .ref (ad (tag, k)) :: S.map (xc ad) := by simp [xc]
  rw [hst]
  have hrun := va_runV (l := l) (e := e) (R := xrm d) (below := below) (meth := meth) (locs := locs) (cells := 0) (slots := 0) (H := H) (As := As'.map (xc ad)) (rest := S.map (xc ad)) (b := ad (tag, k)) (C := C) (n := n) (g := F0 m pc ls ((As'.map (xc ad)).reverse ++ .ref (ad (tag, k)) :: S.map (xc ad))) ⟨hx, hb, hml, hown, hts⟩ (hM l ad _ M M' r hf hAs)
    (cwV n hts (xgood (fun w hw2 => by
      unfold wsV at hw2
      simp only [List.cons_append, List.nil_append, List.mem_cons] at hw2
      rcases hw2 with rfl | rfl | rfl | rfl | rfl | hw2
      · exact h1
      · exact h2
      · exact h3
      · exact h4
      · exact h5
      · exact hw2)) rfl rfl rfl hy ⟨hd.1, by show 8 + (nL2 + 11) + 60 * d2 ≤ 60 * d; omega⟩)
    ⟨xPc.blind, ⟨cell, c1, by rw [c3]; rfl, by rw [c2]; exact hfc⟩, fun U hU hWm => ⟨by simp [xc], hEn.at hF hU hWm, by rw [hU]; exact hW⟩⟩
    rfl (by simpa using hn) hl.2.1 rfl (lv_room (by rw [xcats_sum]; exact hcat)) hdg ⟨Nat.le_refl _, Nat.le_refl _⟩
  exact xgo (As := .inr (.inr (tag, k)) :: As') (M := M) hrun hF hl (fun v hv => hS v (List.mem_append_right _ hv)) hro hw
/-- a static method -/
theorem xco_S {E : xE} {D : xD} {own : String} {d d2 idx tag n rk nL2 : Nat} {y : MethodName} {cc2 : ByteArray} {ret2 : Option FieldType} {f : xF} (hM : xC E D y cc2 nL2 ret2 d2 f) (hd : d2 + 1 ≤ d ∧ nL2 ≤ 40)
    (h1 : Cond.methodLink own idx y ∈ xTB) (h2 : Cond.static y ∈ xTB) (h4 : Cond.initialized y.cls ∈ xTB) (h5 : Cond.code y cc2 nL2 ret2 ∈ xTB) (hy : y.cls ≠ "java/lang/invoke/MethodHandle" ∧ y.cls ≠ "java/lang/invoke/VarHandle" ∧ (parseMethodDescriptor y.desc).map (fun d => d.parameters.length) = some n) : xco E D own d (idx, true, tag, n, rk, f) := by
  intro p l e s m args below meth c cc nL Q ad pc L S As M M' r hC hdg hf hn hcat hrc hro hw H locs ls hW hF hl hS
  have hC2 := hC
  obtain ⟨hx, hb, hml, hown, hts, hlk, hEn⟩ := hC2
  have hAs : ∀ v ∈ As, xok E v := fun v hv => hS v (List.mem_append_left _ (List.mem_reverse.mpr hv))
  rw [xc_map_rev]
  have hrun := va_runS (l := l) (e := e) (R := xrm d) (below := below) (meth := meth) (locs := locs) (cells := 0) (slots := 0) (H := H) (As := As.map (xc ad)) (rest := S.map (xc ad)) (n := n) (g := F0 m pc ls ((As.map (xc ad)).reverse ++ S.map (xc ad))) ⟨hx, hb, hml, hown, hts⟩ (hM l ad _ M M' r hf hAs)
    (va_cwS n hts (xgood (fun w hw2 => by
      unfold va_wsS at hw2
      simp only [List.cons_append, List.nil_append, List.mem_cons] at hw2
      rcases hw2 with rfl | rfl | rfl | rfl | hw2
      · exact h1
      · exact h2
      · exact h4
      · exact h5
      · exact hw2)) rfl rfl rfl hy ⟨hd.1, by show 8 + (nL2 + 11) + 60 * d2 ≤ 60 * d; omega⟩)
    ⟨xPc.blind, fun U hU hWm => ⟨rfl, hEn.at hF hU hWm, by rw [hU]; exact hW⟩⟩
    rfl (by simpa using hn) hl.2.1 rfl (lv_room (by rw [xcats_sum]; exact hcat)) hdg ⟨Nat.le_refl _, Nat.le_refl _⟩
  exact xgo (As := As) (M := M) hrun hF hl (fun v hv => hS v (List.mem_append_right _ hv)) hro hw
/-- a private static method of a nest mate -/
theorem xco_N {E : xE} {D : xD} {own : String} {d d2 idx tag n rk nL2 : Nat} {y : MethodName} {cc2 : ByteArray} {ret2 : Option FieldType} {f : xF} (hM : xC E D y cc2 nL2 ret2 d2 f) (hd : d2 + 1 ≤ d ∧ nL2 ≤ 40)
    (h1 : Cond.methodLinkNest own idx y RX11 ∈ xNw) (h2 : Cond.static y ∈ xTB) (h4 : Cond.initialized y.cls ∈ xTB) (h5 : Cond.code y cc2 nL2 ret2 ∈ xTB) (hy : y.cls ≠ "java/lang/invoke/MethodHandle" ∧ y.cls ≠ "java/lang/invoke/VarHandle" ∧ (parseMethodDescriptor y.desc).map (fun d => d.parameters.length) = some n) : xco E D own d (idx, true, tag, n, rk, f) := by
  intro p l e s m args below meth c cc nL Q ad pc L S As M M' r hC hdg hf hn hcat hrc hro hw H locs ls hW hF hl hS
  have hC2 := hC
  obtain ⟨hx, hb, hml, hown, hts, hlk, hEn⟩ := hC2
  have hAs : ∀ v ∈ As, xok E v := fun v hv => hS v (List.mem_append_left _ (List.mem_reverse.mpr hv))
  rw [xc_map_rev]
  have hrun := va_runSN (l := l) (e := e) (R := xrm d) (below := below) (meth := meth) (locs := locs) (cells := 0) (slots := 0) (H := H) (As := As.map (xc ad)) (rest := S.map (xc ad)) (n := n) (g := F0 m pc ls ((As.map (xc ad)).reverse ++ S.map (xc ad))) ⟨hx, hb, hml, hown, hts⟩ (hM l ad _ M M' r hf hAs)
    ⟨va_cnB n hts (xgood (fun w hw2 => by
      rcases List.mem_cons.mp hw2 with rfl | hw2
      · exact h5
      · exact hw2)) rfl rfl rfl (hEn.2.2.1 _ h1) (hts _ h4) hy ⟨hd.1, by show 8 + (nL2 + 11) + 60 * d2 ≤ 60 * d; omega⟩, hts _ h2, trivial⟩
    ⟨xPc.blind, fun U hU hWm => ⟨rfl, hEn.at hF hU hWm, by rw [hU]; exact hW⟩⟩
    rfl (by simpa using hn) hl.2.1 rfl (lv_room (by rw [xcats_sum]; exact hcat)) hdg ⟨Nat.le_refl _, Nat.le_refl _⟩
  exact xgo (As := As) (M := M) hrun hF hl (fun v hv => hS v (List.mem_append_right _ hv)) hro hw
