/-! The law: its calls and its loop -/
abbrev zx (st : Nat → Nat) (s : State) : xAd := sad s.heap.size offX st
abbrev zm (st : Nat → Nat) (s : State) : xAd := sad (s.heap.size + 165) offM st
def zI (D : xD) (st : Nat → Nat) (s : State) (MX MM : xM) (H : Heap) (locs : List Loc) : Prop := xWd eX D (zx st s) MX H ∧ xWd eM D (zm st s) MM H ∧ H.size = s.heap.size + 224 ∧ (∀ q : Nat, q < s.heap.size → H[q]? = s.heap[q]?) ∧ ∀ l ∈ locs, s.heap.size ≤ l.base
theorem xWd.kept {E : xE} {D : xD} {ad : xAd} {M : xM} {H H' : Heap} (h : xWd E D ad M H) (hq : ∀ r, xvr E r → H'[ad r]? = H[ad r]?) : xWd E D ad M H' := fun r hr => (h r hr).other (fun _ => rfl) (fun _ => rfl) (hq r hr)
def zC (p : Program) (s : State) (m : MethodId) (args : Array Value) (meth : Method) (c : Code) (D : xD) (st : Nat → Nat) : Prop := p.tables.exec = Jvm.exec ∧ c.code = code ∧ c.maxLocals = 4 ∧ s.vm.findClass RL = some m.cls ∧ (∀ w ∈ xTB, w.before args s = true) ∧ meth.locks = false ∧ zB D st s
section
variable {p : Program} {l : Launch} {e : Env} {s : State} {m : MethodId} {args : Array Value} {below : List Frame} {meth : Method} {c : Code} {Q : State → Prop} {D : xD} {st : Nat → Nat} {pc : Nat} {ls : Array Slot} {H : Heap} {locs : List Loc} {cells slots : Nat} {rest : List Value}
/-- a call of the class's object -/
theorem zcX (hC : zC p s m args meth c D st) {idx d n nL : Nat} {y : MethodName} {cc : ByteArray} {ret : Option FieldType} {f : xF} (hM : xC eX D y cc nL ret d f) (hd : d ≤ 100 ∧ nL ≤ 40) (h1 : Cond.methodLink RL idx y ∈ xTB) (h2 : Cond.instanceMethod y ∈ xTB) (h3 : Cond.selects RX11 y y ∈ xTB) (h5 : Cond.code y cc nL ret ∈ xTB) (hy : y.cls = RX11 ∧ y.cls ≠ "java/lang/invoke/MethodHandle" ∧ y.cls ≠ "java/lang/invoke/VarHandle" ∧ (parseMethodDescriptor y.desc).map (fun d => d.parameters.length) = some n)
    {As : List xV} (hAs : ∀ v ∈ As, ∃ x, v = .inl x) (hn : As.length = n) {MX MX' MM : xM} {r : xV} (hr : ∃ x, r = .inl x ∨ ∃ y, r = .inr (.inl y) ∧ x = (0 : Int32)) (hf : f (.inr (.inr (11, 0)) :: As) MX = some (some r, MX')) (hls : ls.size = 4) (hI : zI D st s MX MM H locs) (hcat : (rest.map fun v => v.category).sum ≤ 8) (hc1 : cells ≤ 600000) (hs1 : slots ≤ 7302250) (hdg : decode code pc = .ok (.invokevirtual idx, 3))
    (k : ∀ (H' : Heap) (locs' : List Loc), zI D st s MX' MM H' locs' → W p l e room_1 s m args below meth c H' locs' cells slots Q (F0 m (pc + 3) ls (xc (zx st s) r :: rest))) : W p l e room_1 s m args below meth c H locs cells slots Q (F0 m pc ls ((As.map (xc (zx st s))).reverse ++ .ref (zx st s (11, 0)) :: rest)) := by
  obtain ⟨hx, hb, hml, hown, hts, hlk, hB⟩ := hC
  obtain ⟨i1, i2, i3, i4, i5⟩ := hI
  have hv0 : xvr eX (11, 0) := ⟨by decide, by decide⟩
  have hA0 := i1 (11, 0) hv0
  obtain ⟨q, q1, cell, c1, c2, c3, c4⟩ := hA0
  have hq : q = (RX11, TX11, 13) := Option.some.inj (q1.symm.trans (show vwCl[11]? = some (RX11, TX11, 13) from rfl))
  subst hq
  obtain ⟨-, hfc, -⟩ := hB.1 11 _ q1
  have hAs2 : ∀ v ∈ (.inr (.inr (11, 0)) :: As : List xV), xok eX v := fun v hv => by
    rcases List.mem_cons.mp hv with e | e
    · rw [e]; exact hv0.1
    · obtain ⟨x, e2⟩ := hAs v e
      rw [e2]; trivial
  have hrun := va_runV (l := l) (e := e) (R := room_1) (below := below) (meth := meth) (locs := locs) (cells := cells) (slots := slots) (H := H) (As := As.map (xc (zx st s))) (rest := rest) (b := zx st s (11, 0)) (C := RX11) (n := n) (g := F0 m pc ls ((As.map (xc (zx st s))).reverse ++ .ref (zx st s (11, 0)) :: rest)) ⟨hx, hb, hml, hown, hts⟩ (hM l (zx st s) _ MX MX' (some r) hf hAs2)
    (cwV n hts (xgood (fun w hw2 => by
      unfold wsV at hw2
      simp only [List.cons_append, List.nil_append, List.mem_cons] at hw2
      rcases hw2 with rfl | rfl | rfl | rfl | rfl | hw2
      · exact h1
      · exact h2
      · exact h3
      · exact xinX11
      · exact h5
      · exact hw2)) rfl rfl rfl hy ⟨by show d + 1 ≤ 2048; omega, by show 8 + (nL + 11) + 60 * d ≤ 84000; omega⟩)
    ⟨xPc.blind, ⟨cell, c1, by rw [c3]; rfl, by rw [c2]; exact hfc⟩, fun U hU hWm => ⟨by simp [xc], hB.x (Nat.le_refl _) injX hWm (fun q hq => by rw [hU]; exact i4 q hq), by rw [hU]; exact i1⟩⟩
    rfl (by simpa using hn) hls rfl (lv_room hcat) hdg ⟨hc1, hs1⟩
  intro T hT X
  obtain ⟨v, st₀, t, T', L', h0, X', hL, e1, e2, ⟨p1, p2, p3, p4⟩, sp⟩ := hrun T hT X
  have hv : v = some (xc (zx st s) r) := Outcome.returned.inj p1
  subst hv
  rw [h0] at p3 p4
  have hoX : ∀ q, xOwn eX (zx st s) q → s.heap.size ≤ q ∧ q < s.heap.size + 165 := fun q h => ownX h
  obtain ⟨t2, a1, b1⟩ := k T'.heap (locs ++ L') ⟨by rw [e1]; exact p2, i2.kept (fun r hr => by
      rw [e1]
      refine p4 _ (fun z => ?_)
      have h6 := hoX _ z
      have h7 : s.heap.size + 165 ≤ zm st s r := (ownM (b := s.heap.size + 165) (st := st) ⟨r, hr, rfl⟩).1
      omega), by rw [e1, p3]; exact i3, fun q hq => by
      rw [e1, p4 q (fun z => by have := hoX _ z; omega)]
      exact i4 q hq, fun q hq => by
      rcases List.mem_append.mp hq with h | h
      · exact i5 q h
      · exact (hoX _ (hL q h)).1⟩ T' rfl X'
  exact ⟨t2, sp t2 a1, b1⟩
/-- a call of the reference's -/
theorem zcM (hC : zC p s m args meth c D st) {idx d n nL : Nat} {y : MethodName} {cc : ByteArray} {ret : Option FieldType} {f : xF} (hM : xC eM D y cc nL ret d f) (hd : d ≤ 100 ∧ nL ≤ 40) (h1 : Cond.methodLink RL idx y ∈ xTB) (h2 : Cond.instanceMethod y ∈ xTB) (h3 : Cond.selects RX12 y y ∈ xTB) (h5 : Cond.code y cc nL ret ∈ xTB) (hy : y.cls = RX12 ∧ y.cls ≠ "java/lang/invoke/MethodHandle" ∧ y.cls ≠ "java/lang/invoke/VarHandle" ∧ (parseMethodDescriptor y.desc).map (fun d => d.parameters.length) = some n)
    {As : List xV} (hAs : ∀ v ∈ As, ∃ x, v = .inl x) (hn : As.length = n) {MX MM MM' : xM} {r : xV} (hf : f (.inr (.inr (12, 0)) :: As) MM = some (some r, MM')) (hls : ls.size = 4) (hI : zI D st s MX MM H locs) (hcat : (rest.map fun v => v.category).sum ≤ 8) (hc1 : cells ≤ 600000) (hs1 : slots ≤ 7302250) (hdg : decode code pc = .ok (.invokevirtual idx, 3))
    (k : ∀ (H' : Heap) (locs' : List Loc), zI D st s MX MM' H' locs' → W p l e room_1 s m args below meth c H' locs' cells slots Q (F0 m (pc + 3) ls (xc (zm st s) r :: rest))) : W p l e room_1 s m args below meth c H locs cells slots Q (F0 m pc ls ((As.map (xc (zm st s))).reverse ++ .ref (zm st s (12, 0)) :: rest)) := by
  obtain ⟨hx, hb, hml, hown, hts, hlk, hB⟩ := hC
  obtain ⟨i1, i2, i3, i4, i5⟩ := hI
  have hv0 : xvr eM (12, 0) := ⟨by decide, by decide⟩
  have hA0 := i2 (12, 0) hv0
  obtain ⟨q, q1, cell, c1, c2, c3, c4⟩ := hA0
  have hq : q = (RX12, TX12, 83) := Option.some.inj (q1.symm.trans (show vwCl[12]? = some (RX12, TX12, 83) from rfl))
  subst hq
  obtain ⟨-, hfc, -⟩ := hB.1 12 _ q1
  have hAs2 : ∀ v ∈ (.inr (.inr (12, 0)) :: As : List xV), xok eM v := fun v hv => by
    rcases List.mem_cons.mp hv with e | e
    · rw [e]; exact hv0.1
    · obtain ⟨x, e2⟩ := hAs v e
      rw [e2]; trivial
  have hrun := va_runV (l := l) (e := e) (R := room_1) (below := below) (meth := meth) (locs := locs) (cells := cells) (slots := slots) (H := H) (As := As.map (xc (zm st s))) (rest := rest) (b := zm st s (12, 0)) (C := RX12) (n := n) (g := F0 m pc ls ((As.map (xc (zm st s))).reverse ++ .ref (zm st s (12, 0)) :: rest)) ⟨hx, hb, hml, hown, hts⟩ (hM l (zm st s) _ MM MM' (some r) hf hAs2)
    (cwV n hts (xgood (fun w hw2 => by
      unfold wsV at hw2
      simp only [List.cons_append, List.nil_append, List.mem_cons] at hw2
      rcases hw2 with rfl | rfl | rfl | rfl | rfl | hw2
      · exact h1
      · exact h2
      · exact h3
      · exact xinX12
      · exact h5
      · exact hw2)) rfl rfl rfl hy ⟨by show d + 1 ≤ 2048; omega, by show 8 + (nL + 11) + 60 * d ≤ 84000; omega⟩)
    ⟨xPc.blind, ⟨cell, c1, by rw [c3]; rfl, by rw [c2]; exact hfc⟩, fun U hU hWm => ⟨by simp [xc], hB.x (by omega) injM hWm (fun q hq => by rw [hU]; exact i4 q hq), by rw [hU]; exact i2⟩⟩
    rfl (by simpa using hn) hls rfl (lv_room hcat) hdg ⟨hc1, hs1⟩
  intro T hT X
  obtain ⟨v, st₀, t, T', L', h0, X', hL, e1, e2, ⟨p1, p2, p3, p4⟩, sp⟩ := hrun T hT X
  have hv : v = some (xc (zm st s) r) := Outcome.returned.inj p1
  subst hv
  rw [h0] at p3 p4
  have hoM : ∀ q, xOwn eM (zm st s) q → s.heap.size + 165 ≤ q ∧ q < s.heap.size + 165 + 59 := fun q h => ownM h
  obtain ⟨t2, a1, b1⟩ := k T'.heap (locs ++ L') ⟨i1.kept (fun r hr => by
      rw [e1]
      refine p4 _ (fun z => ?_)
      have h6 := hoM _ z
      have h7 : zx st s r < s.heap.size + 165 := (ownX (b := s.heap.size) (st := st) ⟨r, hr, rfl⟩).2
      omega), by rw [e1]; exact p2, by rw [e1, p3]; exact i3, fun q hq => by
      rw [e1, p4 q (fun z => by have := hoM _ z; omega)]
      exact i4 q hq, fun q hq => by
      rcases List.mem_append.mp hq with h | h
      · exact i5 q h
      · have := (hoM _ (hL q h)).1; omega⟩ T' rfl X'
  exact ⟨t2, sp t2 a1, b1⟩
theorem zI.S {MX MM : xM} (h : zI D st s MX MM H locs) : va_S (fun q => s.heap.size ≤ q) s.heap H locs := ⟨by rw [h.2.2.1]; omega, fun q h1 _ => h.2.2.2.1 q h1, h.2.2.2.2⟩
/-- a number of the script -/
theorem zld (hC : zC p s m args meth c D st) {b0 L j k : Nat} {xs : Nat → Int32} {hv : List (Nat × Value)} (hX : va_X b0 L xs s s.heap) (hbl : b0 < s.heap.size) {vx vm : Value} (hl : lv_has ls 4 [(3, .int (nI j)), (2, vm), (1, vx), (0, .ref b0)]) {MX MM : xM} (hI : zI D st s MX MM H locs) (hj : j + 6 ≤ L) (hL : L ≤ 3072) (hk : k < 6)
    (d0 : decode code pc = .ok (.aload_n 0, 1)) (d1 : decode code (pc + 1) = .ok (.iload_n 3, 1)) (d2 : decode code (pc + 1 + 1) = .ok (.iconst k, 1)) (d3 : decode code (pc + 1 + 1 + 1) = .ok (.iadd, 1)) (d4 : decode code (pc + 1 + 1 + 1 + 1) = .ok (.iaload, 1))
    (kk : W p l e room_1 s m args below meth c H locs cells slots Q (F0 m (pc + 1 + 1 + 1 + 1 + 1) ls (.int (xs (j + k)) :: rest))) : W p l e room_1 s m args below meth c H locs cells slots Q (F0 m pc ls rest) := by
  obtain ⟨hx, hb, hml, hown, hts, hlk, hB⟩ := hC
  have e1 : Int32.ofInt (k : Int) = nI k := by
    have : ∀ k : Nat, k < 6 → Int32.ofInt (k : Int) = nI k := by decide
    exact this k hk
  refine lv_aload_n hx hb d0 rfl (lv_at hl 3 rfl) ?_
  refine lv_iload_n hx hb d1 rfl (lv_at hl 0 rfl) ?_
  refine lv_iconst hx hb d2 e1 ?_
  refine lv_iadd hx hb d3 ?_
  rw [nI_add]
  refine va_sld (A := fun q => s.heap.size ≤ q) hx hb hX hbl (by omega) hI.S (vp_in_nI (by omega) (by omega)) d4 ?_
  rw [nI_clamp (by omega)]
  exact kk
/-- 'is it not 0' as an argument -/
theorem zbo (hC : zC p s m args meth c D st) {v : Int32} (d0 : decode code pc = .ok (.ifCond .eq 7, 3)) (d1 : decode code (pc + 3) = .ok (.iconst 1, 1)) (d2 : decode code (pc + 4) = .ok (.goto 4, 3)) (d3 : decode code (pc + 7) = .ok (.iconst 0, 1))
    (kk : W p l e room_1 s m args below meth c H locs cells slots Q (F0 m (pc + 8) ls (.int (if v = 0 then 0 else 1) :: rest))) : W p l e room_1 s m args below meth c H locs cells slots Q (F0 m pc ls (.int v :: rest)) := by
  obtain ⟨hx, hb, hml, hown, hts, hlk, hB⟩ := hC
  refine lv_if_eq hx hb d0 (tgt := pc + 7) (by omega) (fun q => ?_) (fun q => ?_)
  · rw [if_pos q] at kk
    exact lv_iconst (v := 0) hx hb d3 (by decide) kk
  · rw [if_neg q] at kk
    refine lv_iconst (v := 1) hx hb d1 (by decide) ?_
    exact lv_goto hx hb d2 (tgt := pc + 8) (by omega) kk
end
noncomputable def zX (c : Nat) (a1 a2 a3 a4 a5 : Int32) : xM → Option (Option xV × xM) := match c with
  | 0 => fX11_feed [.inr (.inr (11, 0)), .inl a1, .inl a2, .inl a3, .inl a4, .inl a5]
  | 1 => fX11_end [.inr (.inr (11, 0)), .inl a1]
  | 2 => fX11_thing [.inr (.inr (11, 0))]
  | 3 => fX11_fault [.inr (.inr (11, 0)), .inl a1]
  | 4 => fX11_cell [.inr (.inr (11, 0)), .inl a1, .inl a2, .inl a3]
  | 5 => fX11_bars [.inr (.inr (11, 0)), .inl a1, .inl a2]
  | 6 => fX11_price [.inr (.inr (11, 0)), .inl a1, .inl a2]
  | 7 => fX11_bent [.inr (.inr (11, 0)), .inl a1, .inl (if a2 = 0 then 0 else 1)]
  | 8 => fX11_cut [.inr (.inr (11, 0)), .inl a1, .inl a2, .inl a3]
  | 9 => fX11_heap [.inr (.inr (11, 0)), .inl a1, .inl a2]
  | 10 => fX11_net [.inr (.inr (11, 0)), .inl a1]
  | 11 => fX11_plan [.inr (.inr (11, 0)), .inl a1, .inl a2]
  | 12 => fX11_ring [.inr (.inr (11, 0)), .inl a1, .inl a2, .inl a3]
  | 13 => fX11_missing [.inr (.inr (11, 0)), .inl a1]
  | 14 => fX11_down [.inr (.inr (11, 0)), .inl a1]
  | 15 => fX11_inOne [.inr (.inr (11, 0)), .inl a1, .inl a2, .inl a3]
  | 16 => fX11_view [.inr (.inr (11, 0)), .inl a1, .inl a2, .inl a3]
  | 17 => fX11_moves [.inr (.inr (11, 0)), .inl a1, .inl a2]
  | 18 => fX11_apart [.inr (.inr (11, 0)), .inl a1, .inl a2]
  | 19 => fX11_where [.inr (.inr (11, 0)), .inl a1]
  | 20 => fX11_together [.inr (.inr (11, 0))]
  | 21 => fX11_swollen [.inr (.inr (11, 0)), .inl a1, .inl a2, .inl (if a3 = 0 then 0 else 1)]
  | 22 => fX11_safe [.inr (.inr (11, 0)), .inl a1]
  | 23 => fX11_safeCut [.inr (.inr (11, 0)), .inl a1, .inl a2, .inl a3]
  | 24 => fX11_holding [.inr (.inr (11, 0)), .inl a1]
  | 25 => fX11_oneByOne [.inr (.inr (11, 0)), .inl a1]
  | 26 => fX11_record [.inr (.inr (11, 0))]
  | 27 => fX11_judged [.inr (.inr (11, 0)), .inl a1]
  | 28 => fX11_pull [.inr (.inr (11, 0)), .inl a1, .inl a2, .inl a3, .inl a4]
  | 29 => fX11_like [.inr (.inr (11, 0)), .inl a1, .inl a2, .inl a3]
  | 30 => fX11_mirrored [.inr (.inr (11, 0)), .inl a1, .inl a2]
  | 31 => fX11_minutes [.inr (.inr (11, 0)), .inl a1, .inl a2, .inl a3]
  | 32 => fX11_time [.inr (.inr (11, 0)), .inl a1, .inl a2]
  | _ => fun _ => none
noncomputable def zM (c : Nat) (a1 a2 a3 a4 a5 : Int32) : xM → Option (Option xV × xM) := match c with
  | 0 => fX12_feed [.inr (.inr (12, 0)), .inl a1, .inl a2, .inl a3, .inl a4, .inl a5]
  | 1 => fX12_end [.inr (.inr (12, 0)), .inl a1]
  | 2 => fX12_thing [.inr (.inr (12, 0))]
  | 3 => fX12_fault [.inr (.inr (12, 0)), .inl a1]
  | 4 => fX12_cell [.inr (.inr (12, 0)), .inl a1, .inl a2, .inl a3]
  | 5 => fX12_bars [.inr (.inr (12, 0)), .inl a1, .inl a2]
  | 6 => fX12_price [.inr (.inr (12, 0)), .inl a1, .inl a2]
  | 7 => fX12_bent [.inr (.inr (12, 0)), .inl a1, .inl (if a2 = 0 then 0 else 1)]
  | 8 => fX12_cut [.inr (.inr (12, 0)), .inl a1, .inl a2, .inl a3]
  | 9 => fX12_heap [.inr (.inr (12, 0)), .inl a1, .inl a2]
  | 10 => fX12_net [.inr (.inr (12, 0)), .inl a1]
  | 11 => fX12_plan [.inr (.inr (12, 0)), .inl a1, .inl a2]
  | 12 => fX12_ring [.inr (.inr (12, 0)), .inl a1, .inl a2, .inl a3]
  | 13 => fX12_missing [.inr (.inr (12, 0)), .inl a1]
  | 14 => fX12_down [.inr (.inr (12, 0)), .inl a1]
  | 15 => fX12_inOne [.inr (.inr (12, 0)), .inl a1, .inl a2, .inl a3]
  | 16 => fX12_view [.inr (.inr (12, 0)), .inl a1, .inl a2, .inl a3]
  | 17 => fX12_moves [.inr (.inr (12, 0)), .inl a1, .inl a2]
  | 18 => fX12_apart [.inr (.inr (12, 0)), .inl a1, .inl a2]
  | 19 => fX12_where [.inr (.inr (12, 0)), .inl a1]
  | 20 => fX12_together [.inr (.inr (12, 0))]
  | 21 => fX12_swollen [.inr (.inr (12, 0)), .inl a1, .inl a2, .inl (if a3 = 0 then 0 else 1)]
  | 22 => fX12_safe [.inr (.inr (12, 0)), .inl a1]
  | 23 => fX12_safeCut [.inr (.inr (12, 0)), .inl a1, .inl a2, .inl a3]
  | 24 => fX12_holding [.inr (.inr (12, 0)), .inl a1]
  | 25 => fX12_oneByOne [.inr (.inr (12, 0)), .inl a1]
  | 26 => fX12_record [.inr (.inr (12, 0))]
  | 27 => fX12_judged [.inr (.inr (12, 0)), .inl a1]
  | 28 => fX12_pull [.inr (.inr (12, 0)), .inl a1, .inl a2, .inl a3, .inl a4]
  | 29 => fX12_like [.inr (.inr (12, 0)), .inl a1, .inl a2, .inl a3]
  | 30 => fX12_mirrored [.inr (.inr (12, 0)), .inl a1, .inl a2]
  | 31 => fX12_minutes [.inr (.inr (12, 0)), .inl a1, .inl a2, .inl a3]
  | 32 => fX12_time [.inr (.inr (12, 0)), .inl a1, .inl a2]
  | _ => fun _ => none
def zlong (c : Nat) : Bool := [9, 15, 22, 25].contains c
/-- both answer alike, n calls on -/
def zSim : Nat → xM → xM → Prop
  | 0, _, _ => True
  | n + 1, MX, MM => ∀ c, c < 33 → ∀ a1 a2 a3 a4 a5 : Int32, ∃ (r : xV) (MX' MM' : xM), (if zlong c then ∃ y, r = .inr (.inl y) else ∃ x, r = .inl x) ∧ zX c a1 a2 a3 a4 a5 MX = some (some r, MX') ∧ zM c a1 a2 a3 a4 a5 MM = some (some r, MM') ∧ zSim n MX' MM'
section
variable {p : Program} {l : Launch} {e : Env} {s : State} {m : MethodId} {args : Array Value} {below : List Frame} {meth : Method} {c : Code} {Q : State → Prop} {D : xD} {st : Nat → Nat} {ls : Array Slot} {H : Heap} {locs : List Loc} {cells slots : Nat}
set_option maxHeartbeats 1000000 in
theorem zc0 (hC : zC p s m args meth c D st) {b0 L j : Nat} {xs : Nat → Int32} (hX : va_X b0 L xs s s.heap) (hbl : b0 < s.heap.size) (hl : lv_has ls 4 [(3, .int (nI j)), (2, .ref (zm st s (12, 0))), (1, .ref (zx st s (11, 0))), (0, .ref b0)]) (hj : j + 6 ≤ L) (hL : L ≤ 3072) (hc1 : cells ≤ 600000) (hs1 : slots ≤ 7302250) {MX MX' MM MM' : xM} {r : Int32} (hI : zI D st s MX MM H locs)
    (h1 : fX11_feed (.inr (.inr (11, 0)) :: [.inl (xs (j + 1)), .inl (xs (j + 2)), .inl (xs (j + 3)), .inl (xs (j + 4)), .inl (xs (j + 5))]) MX = some (some (.inl r), MX')) (h2 : fX12_feed (.inr (.inr (12, 0)) :: [.inl (xs (j + 1)), .inl (xs (j + 2)), .inl (xs (j + 3)), .inl (xs (j + 4)), .inl (xs (j + 5))]) MM = some (some (.inl r), MM'))
    (k : ∀ (H' : Heap) (locs' : List Loc), zI D st s MX' MM' H' locs' → W p l e room_1 s m args below meth c H' locs' cells slots Q (F0 m 1285 ls [])) : W p l e room_1 s m args below meth c H locs cells slots Q (F0 m 180 ls []) := by
  have hC2 := hC
  obtain ⟨hx, hb, hml, hown, hts, hlk, hB⟩ := hC2
  refine lv_aload_n hx hb dL_law_180 rfl (lv_at hl 2 rfl) ?_
  refine zld (hv := []) hC hX hbl hl hI hj hL (k := 1) (by decide) dL_law_181 dL_law_182 dL_law_183 dL_law_184 dL_law_185 ?_
  refine zld (hv := []) hC hX hbl hl hI hj hL (k := 2) (by decide) dL_law_186 dL_law_187 dL_law_188 dL_law_189 dL_law_190 ?_
  refine zld (hv := []) hC hX hbl hl hI hj hL (k := 3) (by decide) dL_law_191 dL_law_192 dL_law_193 dL_law_194 dL_law_195 ?_
  refine zld (hv := []) hC hX hbl hl hI hj hL (k := 4) (by decide) dL_law_196 dL_law_197 dL_law_198 dL_law_199 dL_law_200 ?_
  refine zld (hv := []) hC hX hbl hl hI hj hL (k := 5) (by decide) dL_law_201 dL_law_202 dL_law_203 dL_law_204 dL_law_205 ?_
  refine zcX (As := [.inl (xs (j + 1)), .inl (xs (j + 2)), .inl (xs (j + 3)), .inl (xs (j + 4)), .inl (xs (j + 5))]) (n := 5) hC kX11_feed (by decide) (xt2 (List.mem_of_getElem? (i := 211) rfl) rfl) wiX11_feed weX11_feed wcX11_feed (by decide +kernel) (fun v hv => by simp at hv; rcases hv with rfl | rfl | rfl | rfl | rfl <;> exact ⟨_, rfl⟩) rfl ⟨_, Or.inl rfl⟩ h1 hl.1 hI (Nat.le_of_ble_eq_true rfl) hc1 hs1 dL_law_206 (fun H1 locs1 hI1 => ?_)
  refine lv_aload_n hx hb dL_law_209 rfl (lv_at hl 1 rfl) ?_
  refine zld (hv := []) hC hX hbl hl hI1 hj hL (k := 1) (by decide) dL_law_210 dL_law_211 dL_law_212 dL_law_213 dL_law_214 ?_
  refine zld (hv := []) hC hX hbl hl hI1 hj hL (k := 2) (by decide) dL_law_215 dL_law_216 dL_law_217 dL_law_218 dL_law_219 ?_
  refine zld (hv := []) hC hX hbl hl hI1 hj hL (k := 3) (by decide) dL_law_220 dL_law_221 dL_law_222 dL_law_223 dL_law_224 ?_
  refine zld (hv := []) hC hX hbl hl hI1 hj hL (k := 4) (by decide) dL_law_225 dL_law_226 dL_law_227 dL_law_228 dL_law_229 ?_
  refine zld (hv := []) hC hX hbl hl hI1 hj hL (k := 5) (by decide) dL_law_230 dL_law_231 dL_law_232 dL_law_233 dL_law_234 ?_
  refine zcM (As := [.inl (xs (j + 1)), .inl (xs (j + 2)), .inl (xs (j + 3)), .inl (xs (j + 4)), .inl (xs (j + 5))]) (n := 5) hC kX12_feed (by decide) (xt7 (List.mem_of_getElem? (i := 176) rfl) rfl) wiX12_feed weX12_feed wcX12_feed (by decide +kernel) (fun v hv => by simp at hv; rcases hv with rfl | rfl | rfl | rfl | rfl <;> exact ⟨_, rfl⟩) rfl h2 hl.1 hI1 (Nat.le_of_ble_eq_true rfl) hc1 hs1 dL_law_235 (fun H2 locs2 hI2 => ?_)
  exact lv_icmp_eq hx hb dL_law_238 (tgt := 1285) (by decide) (fun _ => k H2 locs2 hI2) (fun q => absurd rfl q)
set_option maxHeartbeats 1000000 in
theorem zc1 (hC : zC p s m args meth c D st) {b0 L j : Nat} {xs : Nat → Int32} (hX : va_X b0 L xs s s.heap) (hbl : b0 < s.heap.size) (hl : lv_has ls 4 [(3, .int (nI j)), (2, .ref (zm st s (12, 0))), (1, .ref (zx st s (11, 0))), (0, .ref b0)]) (hj : j + 6 ≤ L) (hL : L ≤ 3072) (hc1 : cells ≤ 600000) (hs1 : slots ≤ 7302250) {MX MX' MM MM' : xM} {r : Int32} (hI : zI D st s MX MM H locs)
    (h1 : fX11_end (.inr (.inr (11, 0)) :: [.inl (xs (j + 1))]) MX = some (some (.inl r), MX')) (h2 : fX12_end (.inr (.inr (12, 0)) :: [.inl (xs (j + 1))]) MM = some (some (.inl r), MM'))
    (k : ∀ (H' : Heap) (locs' : List Loc), zI D st s MX' MM' H' locs' → W p l e room_1 s m args below meth c H' locs' cells slots Q (F0 m 1285 ls [])) : W p l e room_1 s m args below meth c H locs cells slots Q (F0 m 243 ls []) := by
  have hC2 := hC
  obtain ⟨hx, hb, hml, hown, hts, hlk, hB⟩ := hC2
  refine lv_aload_n hx hb dL_law_243 rfl (lv_at hl 2 rfl) ?_
  refine zld (hv := []) hC hX hbl hl hI hj hL (k := 1) (by decide) dL_law_244 dL_law_245 dL_law_246 dL_law_247 dL_law_248 ?_
  refine zcX (As := [.inl (xs (j + 1))]) (n := 1) hC kX11_end (by decide) (xt2 (List.mem_of_getElem? (i := 223) rfl) rfl) wiX11_end weX11_end wcX11_end (by decide +kernel) (fun v hv => by simp at hv; rcases hv with rfl <;> exact ⟨_, rfl⟩) rfl ⟨_, Or.inl rfl⟩ h1 hl.1 hI (Nat.le_of_ble_eq_true rfl) hc1 hs1 dL_law_249 (fun H1 locs1 hI1 => ?_)
  refine lv_aload_n hx hb dL_law_252 rfl (lv_at hl 1 rfl) ?_
  refine zld (hv := []) hC hX hbl hl hI1 hj hL (k := 1) (by decide) dL_law_253 dL_law_254 dL_law_255 dL_law_256 dL_law_257 ?_
  refine zcM (As := [.inl (xs (j + 1))]) (n := 1) hC kX12_end (by decide) (xt7 (List.mem_of_getElem? (i := 180) rfl) rfl) wiX12_end weX12_end wcX12_end (by decide +kernel) (fun v hv => by simp at hv; rcases hv with rfl <;> exact ⟨_, rfl⟩) rfl h2 hl.1 hI1 (Nat.le_of_ble_eq_true rfl) hc1 hs1 dL_law_258 (fun H2 locs2 hI2 => ?_)
  exact lv_icmp_eq hx hb dL_law_261 (tgt := 1285) (by decide) (fun _ => k H2 locs2 hI2) (fun q => absurd rfl q)
set_option maxHeartbeats 1000000 in
theorem zc2 (hC : zC p s m args meth c D st) {b0 L j : Nat} {xs : Nat → Int32} (hX : va_X b0 L xs s s.heap) (hbl : b0 < s.heap.size) (hl : lv_has ls 4 [(3, .int (nI j)), (2, .ref (zm st s (12, 0))), (1, .ref (zx st s (11, 0))), (0, .ref b0)]) (hj : j + 6 ≤ L) (hL : L ≤ 3072) (hc1 : cells ≤ 600000) (hs1 : slots ≤ 7302250) {MX MX' MM MM' : xM} {r : Int32} (hI : zI D st s MX MM H locs)
    (h1 : fX11_thing (.inr (.inr (11, 0)) :: []) MX = some (some (.inl r), MX')) (h2 : fX12_thing (.inr (.inr (12, 0)) :: []) MM = some (some (.inl r), MM'))
    (k : ∀ (H' : Heap) (locs' : List Loc), zI D st s MX' MM' H' locs' → W p l e room_1 s m args below meth c H' locs' cells slots Q (F0 m 1285 ls [])) : W p l e room_1 s m args below meth c H locs cells slots Q (F0 m 266 ls []) := by
  have hC2 := hC
  obtain ⟨hx, hb, hml, hown, hts, hlk, hB⟩ := hC2
  refine lv_aload_n hx hb dL_law_266 rfl (lv_at hl 2 rfl) ?_
  refine zcX (As := []) (n := 0) hC kX11_thing (by decide) (xt2 (List.mem_of_getElem? (i := 231) rfl) rfl) wiX11_thing weX11_thing wcX11_thing (by decide +kernel) (fun v hv => by cases hv) rfl ⟨_, Or.inl rfl⟩ h1 hl.1 hI (Nat.le_of_ble_eq_true rfl) hc1 hs1 dL_law_267 (fun H1 locs1 hI1 => ?_)
  refine lv_aload_n hx hb dL_law_270 rfl (lv_at hl 1 rfl) ?_
  refine zcM (As := []) (n := 0) hC kX12_thing (by decide) (xt7 (List.mem_of_getElem? (i := 187) rfl) rfl) wiX12_thing weX12_thing wcX12_thing (by decide +kernel) (fun v hv => by cases hv) rfl h2 hl.1 hI1 (Nat.le_of_ble_eq_true rfl) hc1 hs1 dL_law_271 (fun H2 locs2 hI2 => ?_)
  exact lv_icmp_eq hx hb dL_law_274 (tgt := 1285) (by decide) (fun _ => k H2 locs2 hI2) (fun q => absurd rfl q)
set_option maxHeartbeats 1000000 in
theorem zc3 (hC : zC p s m args meth c D st) {b0 L j : Nat} {xs : Nat → Int32} (hX : va_X b0 L xs s s.heap) (hbl : b0 < s.heap.size) (hl : lv_has ls 4 [(3, .int (nI j)), (2, .ref (zm st s (12, 0))), (1, .ref (zx st s (11, 0))), (0, .ref b0)]) (hj : j + 6 ≤ L) (hL : L ≤ 3072) (hc1 : cells ≤ 600000) (hs1 : slots ≤ 7302250) {MX MX' MM MM' : xM} {r : Int32} (hI : zI D st s MX MM H locs)
    (h1 : fX11_fault (.inr (.inr (11, 0)) :: [.inl (xs (j + 1))]) MX = some (some (.inl r), MX')) (h2 : fX12_fault (.inr (.inr (12, 0)) :: [.inl (xs (j + 1))]) MM = some (some (.inl r), MM'))
    (k : ∀ (H' : Heap) (locs' : List Loc), zI D st s MX' MM' H' locs' → W p l e room_1 s m args below meth c H' locs' cells slots Q (F0 m 1285 ls [])) : W p l e room_1 s m args below meth c H locs cells slots Q (F0 m 279 ls []) := by
  have hC2 := hC
  obtain ⟨hx, hb, hml, hown, hts, hlk, hB⟩ := hC2
  refine lv_aload_n hx hb dL_law_279 rfl (lv_at hl 2 rfl) ?_
  refine zld (hv := []) hC hX hbl hl hI hj hL (k := 1) (by decide) dL_law_280 dL_law_281 dL_law_282 dL_law_283 dL_law_284 ?_
  refine zcX (As := [.inl (xs (j + 1))]) (n := 1) hC kX11_fault (by decide) (xt4 (List.mem_of_getElem? (i := 45) rfl) rfl) wiX11_fault weX11_fault wcX11_fault (by decide +kernel) (fun v hv => by simp at hv; rcases hv with rfl <;> exact ⟨_, rfl⟩) rfl ⟨_, Or.inl rfl⟩ h1 hl.1 hI (Nat.le_of_ble_eq_true rfl) hc1 hs1 dL_law_285 (fun H1 locs1 hI1 => ?_)
  refine lv_aload_n hx hb dL_law_288 rfl (lv_at hl 1 rfl) ?_
  refine zld (hv := []) hC hX hbl hl hI1 hj hL (k := 1) (by decide) dL_law_289 dL_law_290 dL_law_291 dL_law_292 dL_law_293 ?_
  refine zcM (As := [.inl (xs (j + 1))]) (n := 1) hC kX12_fault (by decide) (xt8 (List.mem_of_getElem? (i := 67) rfl) rfl) wiX12_fault weX12_fault wcX12_fault (by decide +kernel) (fun v hv => by simp at hv; rcases hv with rfl <;> exact ⟨_, rfl⟩) rfl h2 hl.1 hI1 (Nat.le_of_ble_eq_true rfl) hc1 hs1 dL_law_294 (fun H2 locs2 hI2 => ?_)
  exact lv_icmp_eq hx hb dL_law_297 (tgt := 1285) (by decide) (fun _ => k H2 locs2 hI2) (fun q => absurd rfl q)
set_option maxHeartbeats 1000000 in
theorem zc4 (hC : zC p s m args meth c D st) {b0 L j : Nat} {xs : Nat → Int32} (hX : va_X b0 L xs s s.heap) (hbl : b0 < s.heap.size) (hl : lv_has ls 4 [(3, .int (nI j)), (2, .ref (zm st s (12, 0))), (1, .ref (zx st s (11, 0))), (0, .ref b0)]) (hj : j + 6 ≤ L) (hL : L ≤ 3072) (hc1 : cells ≤ 600000) (hs1 : slots ≤ 7302250) {MX MX' MM MM' : xM} {r : Int32} (hI : zI D st s MX MM H locs)
    (h1 : fX11_cell (.inr (.inr (11, 0)) :: [.inl (xs (j + 1)), .inl (xs (j + 2)), .inl (xs (j + 3))]) MX = some (some (.inl r), MX')) (h2 : fX12_cell (.inr (.inr (12, 0)) :: [.inl (xs (j + 1)), .inl (xs (j + 2)), .inl (xs (j + 3))]) MM = some (some (.inl r), MM'))
    (k : ∀ (H' : Heap) (locs' : List Loc), zI D st s MX' MM' H' locs' → W p l e room_1 s m args below meth c H' locs' cells slots Q (F0 m 1285 ls [])) : W p l e room_1 s m args below meth c H locs cells slots Q (F0 m 302 ls []) := by
  have hC2 := hC
  obtain ⟨hx, hb, hml, hown, hts, hlk, hB⟩ := hC2
  refine lv_aload_n hx hb dL_law_302 rfl (lv_at hl 2 rfl) ?_
  refine zld (hv := []) hC hX hbl hl hI hj hL (k := 1) (by decide) dL_law_303 dL_law_304 dL_law_305 dL_law_306 dL_law_307 ?_
  refine zld (hv := []) hC hX hbl hl hI hj hL (k := 2) (by decide) dL_law_308 dL_law_309 dL_law_310 dL_law_311 dL_law_312 ?_
  refine zld (hv := []) hC hX hbl hl hI hj hL (k := 3) (by decide) dL_law_313 dL_law_314 dL_law_315 dL_law_316 dL_law_317 ?_
  refine zcX (As := [.inl (xs (j + 1)), .inl (xs (j + 2)), .inl (xs (j + 3))]) (n := 3) hC kX11_cell (by decide) (xt4 (List.mem_of_getElem? (i := 49) rfl) rfl) wiX11_cell weX11_cell wcX11_cell (by decide +kernel) (fun v hv => by simp at hv; rcases hv with rfl | rfl | rfl <;> exact ⟨_, rfl⟩) rfl ⟨_, Or.inl rfl⟩ h1 hl.1 hI (Nat.le_of_ble_eq_true rfl) hc1 hs1 dL_law_318 (fun H1 locs1 hI1 => ?_)
  refine lv_aload_n hx hb dL_law_321 rfl (lv_at hl 1 rfl) ?_
  refine zld (hv := []) hC hX hbl hl hI1 hj hL (k := 1) (by decide) dL_law_322 dL_law_323 dL_law_324 dL_law_325 dL_law_326 ?_
  refine zld (hv := []) hC hX hbl hl hI1 hj hL (k := 2) (by decide) dL_law_327 dL_law_328 dL_law_329 dL_law_330 dL_law_331 ?_
  refine zld (hv := []) hC hX hbl hl hI1 hj hL (k := 3) (by decide) dL_law_332 dL_law_333 dL_law_334 dL_law_335 dL_law_336 ?_
  refine zcM (As := [.inl (xs (j + 1)), .inl (xs (j + 2)), .inl (xs (j + 3))]) (n := 3) hC kX12_cell (by decide) (xt8 (List.mem_of_getElem? (i := 71) rfl) rfl) wiX12_cell weX12_cell wcX12_cell (by decide +kernel) (fun v hv => by simp at hv; rcases hv with rfl | rfl | rfl <;> exact ⟨_, rfl⟩) rfl h2 hl.1 hI1 (Nat.le_of_ble_eq_true rfl) hc1 hs1 dL_law_337 (fun H2 locs2 hI2 => ?_)
  exact lv_icmp_eq hx hb dL_law_340 (tgt := 1285) (by decide) (fun _ => k H2 locs2 hI2) (fun q => absurd rfl q)
set_option maxHeartbeats 1000000 in
theorem zc5 (hC : zC p s m args meth c D st) {b0 L j : Nat} {xs : Nat → Int32} (hX : va_X b0 L xs s s.heap) (hbl : b0 < s.heap.size) (hl : lv_has ls 4 [(3, .int (nI j)), (2, .ref (zm st s (12, 0))), (1, .ref (zx st s (11, 0))), (0, .ref b0)]) (hj : j + 6 ≤ L) (hL : L ≤ 3072) (hc1 : cells ≤ 600000) (hs1 : slots ≤ 7302250) {MX MX' MM MM' : xM} {r : Int32} (hI : zI D st s MX MM H locs)
    (h1 : fX11_bars (.inr (.inr (11, 0)) :: [.inl (xs (j + 1)), .inl (xs (j + 2))]) MX = some (some (.inl r), MX')) (h2 : fX12_bars (.inr (.inr (12, 0)) :: [.inl (xs (j + 1)), .inl (xs (j + 2))]) MM = some (some (.inl r), MM'))
    (k : ∀ (H' : Heap) (locs' : List Loc), zI D st s MX' MM' H' locs' → W p l e room_1 s m args below meth c H' locs' cells slots Q (F0 m 1285 ls [])) : W p l e room_1 s m args below meth c H locs cells slots Q (F0 m 345 ls []) := by
  have hC2 := hC
  obtain ⟨hx, hb, hml, hown, hts, hlk, hB⟩ := hC2
  refine lv_aload_n hx hb dL_law_345 rfl (lv_at hl 2 rfl) ?_
  refine zld (hv := []) hC hX hbl hl hI hj hL (k := 1) (by decide) dL_law_346 dL_law_347 dL_law_348 dL_law_349 dL_law_350 ?_
  refine zld (hv := []) hC hX hbl hl hI hj hL (k := 2) (by decide) dL_law_351 dL_law_352 dL_law_353 dL_law_354 dL_law_355 ?_
  refine zcX (As := [.inl (xs (j + 1)), .inl (xs (j + 2))]) (n := 2) hC kX11_bars (by decide) (xt4 (List.mem_of_getElem? (i := 54) rfl) rfl) wiX11_bars weX11_bars wcX11_bars (by decide +kernel) (fun v hv => by simp at hv; rcases hv with rfl | rfl <;> exact ⟨_, rfl⟩) rfl ⟨_, Or.inl rfl⟩ h1 hl.1 hI (Nat.le_of_ble_eq_true rfl) hc1 hs1 dL_law_356 (fun H1 locs1 hI1 => ?_)
  refine lv_aload_n hx hb dL_law_359 rfl (lv_at hl 1 rfl) ?_
  refine zld (hv := []) hC hX hbl hl hI1 hj hL (k := 1) (by decide) dL_law_360 dL_law_361 dL_law_362 dL_law_363 dL_law_364 ?_
  refine zld (hv := []) hC hX hbl hl hI1 hj hL (k := 2) (by decide) dL_law_365 dL_law_366 dL_law_367 dL_law_368 dL_law_369 ?_
  refine zcM (As := [.inl (xs (j + 1)), .inl (xs (j + 2))]) (n := 2) hC kX12_bars (by decide) (xt8 (List.mem_of_getElem? (i := 82) rfl) rfl) wiX12_bars weX12_bars wcX12_bars (by decide +kernel) (fun v hv => by simp at hv; rcases hv with rfl | rfl <;> exact ⟨_, rfl⟩) rfl h2 hl.1 hI1 (Nat.le_of_ble_eq_true rfl) hc1 hs1 dL_law_370 (fun H2 locs2 hI2 => ?_)
  exact lv_icmp_eq hx hb dL_law_373 (tgt := 1285) (by decide) (fun _ => k H2 locs2 hI2) (fun q => absurd rfl q)
set_option maxHeartbeats 1000000 in
theorem zc6 (hC : zC p s m args meth c D st) {b0 L j : Nat} {xs : Nat → Int32} (hX : va_X b0 L xs s s.heap) (hbl : b0 < s.heap.size) (hl : lv_has ls 4 [(3, .int (nI j)), (2, .ref (zm st s (12, 0))), (1, .ref (zx st s (11, 0))), (0, .ref b0)]) (hj : j + 6 ≤ L) (hL : L ≤ 3072) (hc1 : cells ≤ 600000) (hs1 : slots ≤ 7302250) {MX MX' MM MM' : xM} {r : Int32} (hI : zI D st s MX MM H locs)
    (h1 : fX11_price (.inr (.inr (11, 0)) :: [.inl (xs (j + 1)), .inl (xs (j + 2))]) MX = some (some (.inl r), MX')) (h2 : fX12_price (.inr (.inr (12, 0)) :: [.inl (xs (j + 1)), .inl (xs (j + 2))]) MM = some (some (.inl r), MM'))
    (k : ∀ (H' : Heap) (locs' : List Loc), zI D st s MX' MM' H' locs' → W p l e room_1 s m args below meth c H' locs' cells slots Q (F0 m 1285 ls [])) : W p l e room_1 s m args below meth c H locs cells slots Q (F0 m 378 ls []) := by
  have hC2 := hC
  obtain ⟨hx, hb, hml, hown, hts, hlk, hB⟩ := hC2
  refine lv_aload_n hx hb dL_law_378 rfl (lv_at hl 2 rfl) ?_
  refine zld (hv := []) hC hX hbl hl hI hj hL (k := 1) (by decide) dL_law_379 dL_law_380 dL_law_381 dL_law_382 dL_law_383 ?_
  refine zld (hv := []) hC hX hbl hl hI hj hL (k := 2) (by decide) dL_law_384 dL_law_385 dL_law_386 dL_law_387 dL_law_388 ?_
  refine zcX (As := [.inl (xs (j + 1)), .inl (xs (j + 2))]) (n := 2) hC kX11_price (by decide) (xt4 (List.mem_of_getElem? (i := 66) rfl) rfl) wiX11_price weX11_price wcX11_price (by decide +kernel) (fun v hv => by simp at hv; rcases hv with rfl | rfl <;> exact ⟨_, rfl⟩) rfl ⟨_, Or.inl rfl⟩ h1 hl.1 hI (Nat.le_of_ble_eq_true rfl) hc1 hs1 dL_law_389 (fun H1 locs1 hI1 => ?_)
  refine lv_aload_n hx hb dL_law_392 rfl (lv_at hl 1 rfl) ?_
  refine zld (hv := []) hC hX hbl hl hI1 hj hL (k := 1) (by decide) dL_law_393 dL_law_394 dL_law_395 dL_law_396 dL_law_397 ?_
  refine zld (hv := []) hC hX hbl hl hI1 hj hL (k := 2) (by decide) dL_law_398 dL_law_399 dL_law_400 dL_law_401 dL_law_402 ?_
  refine zcM (As := [.inl (xs (j + 1)), .inl (xs (j + 2))]) (n := 2) hC kX12_price (by decide) (xt8 (List.mem_of_getElem? (i := 142) rfl) rfl) wiX12_price weX12_price wcX12_price (by decide +kernel) (fun v hv => by simp at hv; rcases hv with rfl | rfl <;> exact ⟨_, rfl⟩) rfl h2 hl.1 hI1 (Nat.le_of_ble_eq_true rfl) hc1 hs1 dL_law_403 (fun H2 locs2 hI2 => ?_)
  exact lv_icmp_eq hx hb dL_law_406 (tgt := 1285) (by decide) (fun _ => k H2 locs2 hI2) (fun q => absurd rfl q)
set_option maxHeartbeats 1000000 in
theorem zc7 (hC : zC p s m args meth c D st) {b0 L j : Nat} {xs : Nat → Int32} (hX : va_X b0 L xs s s.heap) (hbl : b0 < s.heap.size) (hl : lv_has ls 4 [(3, .int (nI j)), (2, .ref (zm st s (12, 0))), (1, .ref (zx st s (11, 0))), (0, .ref b0)]) (hj : j + 6 ≤ L) (hL : L ≤ 3072) (hc1 : cells ≤ 600000) (hs1 : slots ≤ 7302250) {MX MX' MM MM' : xM} {r : Int32} (hI : zI D st s MX MM H locs)
    (h1 : fX11_bent (.inr (.inr (11, 0)) :: [.inl (xs (j + 1)), .inl (if (xs (j + 2)) = 0 then 0 else 1)]) MX = some (some (.inl r), MX')) (h2 : fX12_bent (.inr (.inr (12, 0)) :: [.inl (xs (j + 1)), .inl (if (xs (j + 2)) = 0 then 0 else 1)]) MM = some (some (.inl r), MM'))
    (k : ∀ (H' : Heap) (locs' : List Loc), zI D st s MX' MM' H' locs' → W p l e room_1 s m args below meth c H' locs' cells slots Q (F0 m 1285 ls [])) : W p l e room_1 s m args below meth c H locs cells slots Q (F0 m 411 ls []) := by
  have hC2 := hC
  obtain ⟨hx, hb, hml, hown, hts, hlk, hB⟩ := hC2
  refine lv_aload_n hx hb dL_law_411 rfl (lv_at hl 2 rfl) ?_
  refine zld (hv := []) hC hX hbl hl hI hj hL (k := 1) (by decide) dL_law_412 dL_law_413 dL_law_414 dL_law_415 dL_law_416 ?_
  refine zld (hv := []) hC hX hbl hl hI hj hL (k := 2) (by decide) dL_law_417 dL_law_418 dL_law_419 dL_law_420 dL_law_421 ?_
  refine zbo hC dL_law_422 dL_law_425 dL_law_426 dL_law_429 ?_
  refine zcX (As := [.inl (xs (j + 1)), .inl (if (xs (j + 2)) = 0 then 0 else 1)]) (n := 2) hC kX11_bent (by decide) (xt4 (List.mem_of_getElem? (i := 70) rfl) rfl) wiX11_bent weX11_bent wcX11_bent (by decide +kernel) (fun v hv => by simp at hv; rcases hv with rfl | rfl <;> exact ⟨_, rfl⟩) rfl ⟨_, Or.inl rfl⟩ h1 hl.1 hI (Nat.le_of_ble_eq_true rfl) hc1 hs1 dL_law_430 (fun H1 locs1 hI1 => ?_)
  refine lv_aload_n hx hb dL_law_433 rfl (lv_at hl 1 rfl) ?_
  refine zld (hv := []) hC hX hbl hl hI1 hj hL (k := 1) (by decide) dL_law_434 dL_law_435 dL_law_436 dL_law_437 dL_law_438 ?_
  refine zld (hv := []) hC hX hbl hl hI1 hj hL (k := 2) (by decide) dL_law_439 dL_law_440 dL_law_441 dL_law_442 dL_law_443 ?_
  refine zbo hC dL_law_444 dL_law_447 dL_law_448 dL_law_451 ?_
  refine zcM (As := [.inl (xs (j + 1)), .inl (if (xs (j + 2)) = 0 then 0 else 1)]) (n := 2) hC kX12_bent (by decide) (xt8 (List.mem_of_getElem? (i := 146) rfl) rfl) wiX12_bent weX12_bent wcX12_bent (by decide +kernel) (fun v hv => by simp at hv; rcases hv with rfl | rfl <;> exact ⟨_, rfl⟩) rfl h2 hl.1 hI1 (Nat.le_of_ble_eq_true rfl) hc1 hs1 dL_law_452 (fun H2 locs2 hI2 => ?_)
  exact lv_icmp_eq hx hb dL_law_455 (tgt := 1285) (by decide) (fun _ => k H2 locs2 hI2) (fun q => absurd rfl q)
set_option maxHeartbeats 1000000 in
theorem zc8 (hC : zC p s m args meth c D st) {b0 L j : Nat} {xs : Nat → Int32} (hX : va_X b0 L xs s s.heap) (hbl : b0 < s.heap.size) (hl : lv_has ls 4 [(3, .int (nI j)), (2, .ref (zm st s (12, 0))), (1, .ref (zx st s (11, 0))), (0, .ref b0)]) (hj : j + 6 ≤ L) (hL : L ≤ 3072) (hc1 : cells ≤ 600000) (hs1 : slots ≤ 7302250) {MX MX' MM MM' : xM} {r : Int32} (hI : zI D st s MX MM H locs)
    (h1 : fX11_cut (.inr (.inr (11, 0)) :: [.inl (xs (j + 1)), .inl (xs (j + 2)), .inl (xs (j + 3))]) MX = some (some (.inl r), MX')) (h2 : fX12_cut (.inr (.inr (12, 0)) :: [.inl (xs (j + 1)), .inl (xs (j + 2)), .inl (xs (j + 3))]) MM = some (some (.inl r), MM'))
    (k : ∀ (H' : Heap) (locs' : List Loc), zI D st s MX' MM' H' locs' → W p l e room_1 s m args below meth c H' locs' cells slots Q (F0 m 1285 ls [])) : W p l e room_1 s m args below meth c H locs cells slots Q (F0 m 460 ls []) := by
  have hC2 := hC
  obtain ⟨hx, hb, hml, hown, hts, hlk, hB⟩ := hC2
  refine lv_aload_n hx hb dL_law_460 rfl (lv_at hl 2 rfl) ?_
  refine zld (hv := []) hC hX hbl hl hI hj hL (k := 1) (by decide) dL_law_461 dL_law_462 dL_law_463 dL_law_464 dL_law_465 ?_
  refine zld (hv := []) hC hX hbl hl hI hj hL (k := 2) (by decide) dL_law_466 dL_law_467 dL_law_468 dL_law_469 dL_law_470 ?_
  refine zld (hv := []) hC hX hbl hl hI hj hL (k := 3) (by decide) dL_law_471 dL_law_472 dL_law_473 dL_law_474 dL_law_475 ?_
  refine zcX (As := [.inl (xs (j + 1)), .inl (xs (j + 2)), .inl (xs (j + 3))]) (n := 3) hC kX11_cut (by decide) (xt4 (List.mem_of_getElem? (i := 76) rfl) rfl) wiX11_cut weX11_cut wcX11_cut (by decide +kernel) (fun v hv => by simp at hv; rcases hv with rfl | rfl | rfl <;> exact ⟨_, rfl⟩) rfl ⟨_, Or.inl rfl⟩ h1 hl.1 hI (Nat.le_of_ble_eq_true rfl) hc1 hs1 dL_law_476 (fun H1 locs1 hI1 => ?_)
  refine lv_aload_n hx hb dL_law_479 rfl (lv_at hl 1 rfl) ?_
  refine zld (hv := []) hC hX hbl hl hI1 hj hL (k := 1) (by decide) dL_law_480 dL_law_481 dL_law_482 dL_law_483 dL_law_484 ?_
  refine zld (hv := []) hC hX hbl hl hI1 hj hL (k := 2) (by decide) dL_law_485 dL_law_486 dL_law_487 dL_law_488 dL_law_489 ?_
  refine zld (hv := []) hC hX hbl hl hI1 hj hL (k := 3) (by decide) dL_law_490 dL_law_491 dL_law_492 dL_law_493 dL_law_494 ?_
  refine zcM (As := [.inl (xs (j + 1)), .inl (xs (j + 2)), .inl (xs (j + 3))]) (n := 3) hC kX12_cut (by decide) (xt8 (List.mem_of_getElem? (i := 150) rfl) rfl) wiX12_cut weX12_cut wcX12_cut (by decide +kernel) (fun v hv => by simp at hv; rcases hv with rfl | rfl | rfl <;> exact ⟨_, rfl⟩) rfl h2 hl.1 hI1 (Nat.le_of_ble_eq_true rfl) hc1 hs1 dL_law_495 (fun H2 locs2 hI2 => ?_)
  exact lv_icmp_eq hx hb dL_law_498 (tgt := 1285) (by decide) (fun _ => k H2 locs2 hI2) (fun q => absurd rfl q)
set_option maxHeartbeats 1000000 in
theorem zc9 (hC : zC p s m args meth c D st) {b0 L j : Nat} {xs : Nat → Int32} (hX : va_X b0 L xs s s.heap) (hbl : b0 < s.heap.size) (hl : lv_has ls 4 [(3, .int (nI j)), (2, .ref (zm st s (12, 0))), (1, .ref (zx st s (11, 0))), (0, .ref b0)]) (hj : j + 6 ≤ L) (hL : L ≤ 3072) (hc1 : cells ≤ 600000) (hs1 : slots ≤ 7302250) {MX MX' MM MM' : xM} {r : Int64} (hI : zI D st s MX MM H locs)
    (h1 : fX11_heap (.inr (.inr (11, 0)) :: [.inl (xs (j + 1)), .inl (xs (j + 2))]) MX = some (some (.inr (.inl r)), MX')) (h2 : fX12_heap (.inr (.inr (12, 0)) :: [.inl (xs (j + 1)), .inl (xs (j + 2))]) MM = some (some (.inr (.inl r)), MM'))
    (k : ∀ (H' : Heap) (locs' : List Loc), zI D st s MX' MM' H' locs' → W p l e room_1 s m args below meth c H' locs' cells slots Q (F0 m 1285 ls [])) : W p l e room_1 s m args below meth c H locs cells slots Q (F0 m 503 ls []) := by
  have hC2 := hC
  obtain ⟨hx, hb, hml, hown, hts, hlk, hB⟩ := hC2
  refine lv_aload_n hx hb dL_law_503 rfl (lv_at hl 2 rfl) ?_
  refine zld (hv := []) hC hX hbl hl hI hj hL (k := 1) (by decide) dL_law_504 dL_law_505 dL_law_506 dL_law_507 dL_law_508 ?_
  refine zld (hv := []) hC hX hbl hl hI hj hL (k := 2) (by decide) dL_law_509 dL_law_510 dL_law_511 dL_law_512 dL_law_513 ?_
  refine zcX (As := [.inl (xs (j + 1)), .inl (xs (j + 2))]) (n := 2) hC kX11_heap (by decide) (xt4 (List.mem_of_getElem? (i := 101) rfl) rfl) wiX11_heap weX11_heap wcX11_heap (by decide +kernel) (fun v hv => by simp at hv; rcases hv with rfl | rfl <;> exact ⟨_, rfl⟩) rfl ⟨0, Or.inr ⟨_, rfl, rfl⟩⟩ h1 hl.1 hI (Nat.le_of_ble_eq_true rfl) hc1 hs1 dL_law_514 (fun H1 locs1 hI1 => ?_)
  refine lv_aload_n hx hb dL_law_517 rfl (lv_at hl 1 rfl) ?_
  refine zld (hv := []) hC hX hbl hl hI1 hj hL (k := 1) (by decide) dL_law_518 dL_law_519 dL_law_520 dL_law_521 dL_law_522 ?_
  refine zld (hv := []) hC hX hbl hl hI1 hj hL (k := 2) (by decide) dL_law_523 dL_law_524 dL_law_525 dL_law_526 dL_law_527 ?_
  refine zcM (As := [.inl (xs (j + 1)), .inl (xs (j + 2))]) (n := 2) hC kX12_heap (by decide) (xt8 (List.mem_of_getElem? (i := 162) rfl) rfl) wiX12_heap weX12_heap wcX12_heap (by decide +kernel) (fun v hv => by simp at hv; rcases hv with rfl | rfl <;> exact ⟨_, rfl⟩) rfl h2 hl.1 hI1 (Nat.le_of_ble_eq_true rfl) hc1 hs1 dL_law_528 (fun H2 locs2 hI2 => ?_)
  refine W.lcmp hx hb dL_law_531 ?_
  have e0 : lg_cmp r r = 0 := by simp [lg_cmp]
  show W p l e room_1 s m args below meth c H2 locs2 cells slots Q (F0 m 532 ls [.int (lg_cmp r r)])
  rw [e0]
  exact lv_if_eq hx hb dL_law_532 (tgt := 1285) (by decide) (fun _ => k H2 locs2 hI2) (fun q => absurd rfl q)
set_option maxHeartbeats 1000000 in
theorem zc10 (hC : zC p s m args meth c D st) {b0 L j : Nat} {xs : Nat → Int32} (hX : va_X b0 L xs s s.heap) (hbl : b0 < s.heap.size) (hl : lv_has ls 4 [(3, .int (nI j)), (2, .ref (zm st s (12, 0))), (1, .ref (zx st s (11, 0))), (0, .ref b0)]) (hj : j + 6 ≤ L) (hL : L ≤ 3072) (hc1 : cells ≤ 600000) (hs1 : slots ≤ 7302250) {MX MX' MM MM' : xM} {r : Int32} (hI : zI D st s MX MM H locs)
    (h1 : fX11_net (.inr (.inr (11, 0)) :: [.inl (xs (j + 1))]) MX = some (some (.inl r), MX')) (h2 : fX12_net (.inr (.inr (12, 0)) :: [.inl (xs (j + 1))]) MM = some (some (.inl r), MM'))
    (k : ∀ (H' : Heap) (locs' : List Loc), zI D st s MX' MM' H' locs' → W p l e room_1 s m args below meth c H' locs' cells slots Q (F0 m 1285 ls [])) : W p l e room_1 s m args below meth c H locs cells slots Q (F0 m 537 ls []) := by
  have hC2 := hC
  obtain ⟨hx, hb, hml, hown, hts, hlk, hB⟩ := hC2
  refine lv_aload_n hx hb dL_law_537 rfl (lv_at hl 2 rfl) ?_
  refine zld (hv := []) hC hX hbl hl hI hj hL (k := 1) (by decide) dL_law_538 dL_law_539 dL_law_540 dL_law_541 dL_law_542 ?_
  refine zcX (As := [.inl (xs (j + 1))]) (n := 1) hC kX11_net (by decide) (xt5 (List.mem_of_getElem? (i := 28) rfl) rfl) wiX11_net weX11_net wcX11_net (by decide +kernel) (fun v hv => by simp at hv; rcases hv with rfl <;> exact ⟨_, rfl⟩) rfl ⟨_, Or.inl rfl⟩ h1 hl.1 hI (Nat.le_of_ble_eq_true rfl) hc1 hs1 dL_law_543 (fun H1 locs1 hI1 => ?_)
  refine lv_aload_n hx hb dL_law_546 rfl (lv_at hl 1 rfl) ?_
  refine zld (hv := []) hC hX hbl hl hI1 hj hL (k := 1) (by decide) dL_law_547 dL_law_548 dL_law_549 dL_law_550 dL_law_551 ?_
  refine zcM (As := [.inl (xs (j + 1))]) (n := 1) hC kX12_net (by decide) (xt8 (List.mem_of_getElem? (i := 171) rfl) rfl) wiX12_net weX12_net wcX12_net (by decide +kernel) (fun v hv => by simp at hv; rcases hv with rfl <;> exact ⟨_, rfl⟩) rfl h2 hl.1 hI1 (Nat.le_of_ble_eq_true rfl) hc1 hs1 dL_law_552 (fun H2 locs2 hI2 => ?_)
  exact lv_icmp_eq hx hb dL_law_555 (tgt := 1285) (by decide) (fun _ => k H2 locs2 hI2) (fun q => absurd rfl q)
set_option maxHeartbeats 1000000 in
theorem zc11 (hC : zC p s m args meth c D st) {b0 L j : Nat} {xs : Nat → Int32} (hX : va_X b0 L xs s s.heap) (hbl : b0 < s.heap.size) (hl : lv_has ls 4 [(3, .int (nI j)), (2, .ref (zm st s (12, 0))), (1, .ref (zx st s (11, 0))), (0, .ref b0)]) (hj : j + 6 ≤ L) (hL : L ≤ 3072) (hc1 : cells ≤ 600000) (hs1 : slots ≤ 7302250) {MX MX' MM MM' : xM} {r : Int32} (hI : zI D st s MX MM H locs)
    (h1 : fX11_plan (.inr (.inr (11, 0)) :: [.inl (xs (j + 1)), .inl (xs (j + 2))]) MX = some (some (.inl r), MX')) (h2 : fX12_plan (.inr (.inr (12, 0)) :: [.inl (xs (j + 1)), .inl (xs (j + 2))]) MM = some (some (.inl r), MM'))
    (k : ∀ (H' : Heap) (locs' : List Loc), zI D st s MX' MM' H' locs' → W p l e room_1 s m args below meth c H' locs' cells slots Q (F0 m 1285 ls [])) : W p l e room_1 s m args below meth c H locs cells slots Q (F0 m 560 ls []) := by
  have hC2 := hC
  obtain ⟨hx, hb, hml, hown, hts, hlk, hB⟩ := hC2
  refine lv_aload_n hx hb dL_law_560 rfl (lv_at hl 2 rfl) ?_
  refine zld (hv := []) hC hX hbl hl hI hj hL (k := 1) (by decide) dL_law_561 dL_law_562 dL_law_563 dL_law_564 dL_law_565 ?_
  refine zld (hv := []) hC hX hbl hl hI hj hL (k := 2) (by decide) dL_law_566 dL_law_567 dL_law_568 dL_law_569 dL_law_570 ?_
  refine zcX (As := [.inl (xs (j + 1)), .inl (xs (j + 2))]) (n := 2) hC kX11_plan (by decide) (xt5 (List.mem_of_getElem? (i := 42) rfl) rfl) wiX11_plan weX11_plan wcX11_plan (by decide +kernel) (fun v hv => by simp at hv; rcases hv with rfl | rfl <;> exact ⟨_, rfl⟩) rfl ⟨_, Or.inl rfl⟩ h1 hl.1 hI (Nat.le_of_ble_eq_true rfl) hc1 hs1 dL_law_571 (fun H1 locs1 hI1 => ?_)
  refine lv_aload_n hx hb dL_law_574 rfl (lv_at hl 1 rfl) ?_
  refine zld (hv := []) hC hX hbl hl hI1 hj hL (k := 1) (by decide) dL_law_575 dL_law_576 dL_law_577 dL_law_578 dL_law_579 ?_
  refine zld (hv := []) hC hX hbl hl hI1 hj hL (k := 2) (by decide) dL_law_580 dL_law_581 dL_law_582 dL_law_583 dL_law_584 ?_
  refine zcM (As := [.inl (xs (j + 1)), .inl (xs (j + 2))]) (n := 2) hC kX12_plan (by decide) (xt8 (List.mem_of_getElem? (i := 175) rfl) rfl) wiX12_plan weX12_plan wcX12_plan (by decide +kernel) (fun v hv => by simp at hv; rcases hv with rfl | rfl <;> exact ⟨_, rfl⟩) rfl h2 hl.1 hI1 (Nat.le_of_ble_eq_true rfl) hc1 hs1 dL_law_585 (fun H2 locs2 hI2 => ?_)
  exact lv_icmp_eq hx hb dL_law_588 (tgt := 1285) (by decide) (fun _ => k H2 locs2 hI2) (fun q => absurd rfl q)
set_option maxHeartbeats 1000000 in
theorem zc12 (hC : zC p s m args meth c D st) {b0 L j : Nat} {xs : Nat → Int32} (hX : va_X b0 L xs s s.heap) (hbl : b0 < s.heap.size) (hl : lv_has ls 4 [(3, .int (nI j)), (2, .ref (zm st s (12, 0))), (1, .ref (zx st s (11, 0))), (0, .ref b0)]) (hj : j + 6 ≤ L) (hL : L ≤ 3072) (hc1 : cells ≤ 600000) (hs1 : slots ≤ 7302250) {MX MX' MM MM' : xM} {r : Int32} (hI : zI D st s MX MM H locs)
    (h1 : fX11_ring (.inr (.inr (11, 0)) :: [.inl (xs (j + 1)), .inl (xs (j + 2)), .inl (xs (j + 3))]) MX = some (some (.inl r), MX')) (h2 : fX12_ring (.inr (.inr (12, 0)) :: [.inl (xs (j + 1)), .inl (xs (j + 2)), .inl (xs (j + 3))]) MM = some (some (.inl r), MM'))
    (k : ∀ (H' : Heap) (locs' : List Loc), zI D st s MX' MM' H' locs' → W p l e room_1 s m args below meth c H' locs' cells slots Q (F0 m 1285 ls [])) : W p l e room_1 s m args below meth c H locs cells slots Q (F0 m 593 ls []) := by
  have hC2 := hC
  obtain ⟨hx, hb, hml, hown, hts, hlk, hB⟩ := hC2
  refine lv_aload_n hx hb dL_law_593 rfl (lv_at hl 2 rfl) ?_
  refine zld (hv := []) hC hX hbl hl hI hj hL (k := 1) (by decide) dL_law_594 dL_law_595 dL_law_596 dL_law_597 dL_law_598 ?_
  refine zld (hv := []) hC hX hbl hl hI hj hL (k := 2) (by decide) dL_law_599 dL_law_600 dL_law_601 dL_law_602 dL_law_603 ?_
  refine zld (hv := []) hC hX hbl hl hI hj hL (k := 3) (by decide) dL_law_604 dL_law_605 dL_law_606 dL_law_607 dL_law_608 ?_
  refine zcX (As := [.inl (xs (j + 1)), .inl (xs (j + 2)), .inl (xs (j + 3))]) (n := 3) hC kX11_ring (by decide) (xt5 (List.mem_of_getElem? (i := 55) rfl) rfl) wiX11_ring weX11_ring wcX11_ring (by decide +kernel) (fun v hv => by simp at hv; rcases hv with rfl | rfl | rfl <;> exact ⟨_, rfl⟩) rfl ⟨_, Or.inl rfl⟩ h1 hl.1 hI (Nat.le_of_ble_eq_true rfl) hc1 hs1 dL_law_609 (fun H1 locs1 hI1 => ?_)
  refine lv_aload_n hx hb dL_law_612 rfl (lv_at hl 1 rfl) ?_
  refine zld (hv := []) hC hX hbl hl hI1 hj hL (k := 1) (by decide) dL_law_613 dL_law_614 dL_law_615 dL_law_616 dL_law_617 ?_
  refine zld (hv := []) hC hX hbl hl hI1 hj hL (k := 2) (by decide) dL_law_618 dL_law_619 dL_law_620 dL_law_621 dL_law_622 ?_
  refine zld (hv := []) hC hX hbl hl hI1 hj hL (k := 3) (by decide) dL_law_623 dL_law_624 dL_law_625 dL_law_626 dL_law_627 ?_
  refine zcM (As := [.inl (xs (j + 1)), .inl (xs (j + 2)), .inl (xs (j + 3))]) (n := 3) hC kX12_ring (by decide) (xt8 (List.mem_of_getElem? (i := 179) rfl) rfl) wiX12_ring weX12_ring wcX12_ring (by decide +kernel) (fun v hv => by simp at hv; rcases hv with rfl | rfl | rfl <;> exact ⟨_, rfl⟩) rfl h2 hl.1 hI1 (Nat.le_of_ble_eq_true rfl) hc1 hs1 dL_law_628 (fun H2 locs2 hI2 => ?_)
  exact lv_icmp_eq hx hb dL_law_631 (tgt := 1285) (by decide) (fun _ => k H2 locs2 hI2) (fun q => absurd rfl q)
set_option maxHeartbeats 1000000 in
theorem zc13 (hC : zC p s m args meth c D st) {b0 L j : Nat} {xs : Nat → Int32} (hX : va_X b0 L xs s s.heap) (hbl : b0 < s.heap.size) (hl : lv_has ls 4 [(3, .int (nI j)), (2, .ref (zm st s (12, 0))), (1, .ref (zx st s (11, 0))), (0, .ref b0)]) (hj : j + 6 ≤ L) (hL : L ≤ 3072) (hc1 : cells ≤ 600000) (hs1 : slots ≤ 7302250) {MX MX' MM MM' : xM} {r : Int32} (hI : zI D st s MX MM H locs)
    (h1 : fX11_missing (.inr (.inr (11, 0)) :: [.inl (xs (j + 1))]) MX = some (some (.inl r), MX')) (h2 : fX12_missing (.inr (.inr (12, 0)) :: [.inl (xs (j + 1))]) MM = some (some (.inl r), MM'))
    (k : ∀ (H' : Heap) (locs' : List Loc), zI D st s MX' MM' H' locs' → W p l e room_1 s m args below meth c H' locs' cells slots Q (F0 m 1285 ls [])) : W p l e room_1 s m args below meth c H locs cells slots Q (F0 m 636 ls []) := by
  have hC2 := hC
  obtain ⟨hx, hb, hml, hown, hts, hlk, hB⟩ := hC2
  refine lv_aload_n hx hb dL_law_636 rfl (lv_at hl 2 rfl) ?_
  refine zld (hv := []) hC hX hbl hl hI hj hL (k := 1) (by decide) dL_law_637 dL_law_638 dL_law_639 dL_law_640 dL_law_641 ?_
  refine zcX (As := [.inl (xs (j + 1))]) (n := 1) hC kX11_missing (by decide) (xt5 (List.mem_of_getElem? (i := 74) rfl) rfl) wiX11_missing weX11_missing wcX11_missing (by decide +kernel) (fun v hv => by simp at hv; rcases hv with rfl <;> exact ⟨_, rfl⟩) rfl ⟨_, Or.inl rfl⟩ h1 hl.1 hI (Nat.le_of_ble_eq_true rfl) hc1 hs1 dL_law_642 (fun H1 locs1 hI1 => ?_)
  refine lv_aload_n hx hb dL_law_645 rfl (lv_at hl 1 rfl) ?_
  refine zld (hv := []) hC hX hbl hl hI1 hj hL (k := 1) (by decide) dL_law_646 dL_law_647 dL_law_648 dL_law_649 dL_law_650 ?_
  refine zcM (As := [.inl (xs (j + 1))]) (n := 1) hC kX12_missing (by decide) (xt8 (List.mem_of_getElem? (i := 191) rfl) rfl) wiX12_missing weX12_missing wcX12_missing (by decide +kernel) (fun v hv => by simp at hv; rcases hv with rfl <;> exact ⟨_, rfl⟩) rfl h2 hl.1 hI1 (Nat.le_of_ble_eq_true rfl) hc1 hs1 dL_law_651 (fun H2 locs2 hI2 => ?_)
  exact lv_icmp_eq hx hb dL_law_654 (tgt := 1285) (by decide) (fun _ => k H2 locs2 hI2) (fun q => absurd rfl q)
set_option maxHeartbeats 1000000 in
theorem zc14 (hC : zC p s m args meth c D st) {b0 L j : Nat} {xs : Nat → Int32} (hX : va_X b0 L xs s s.heap) (hbl : b0 < s.heap.size) (hl : lv_has ls 4 [(3, .int (nI j)), (2, .ref (zm st s (12, 0))), (1, .ref (zx st s (11, 0))), (0, .ref b0)]) (hj : j + 6 ≤ L) (hL : L ≤ 3072) (hc1 : cells ≤ 600000) (hs1 : slots ≤ 7302250) {MX MX' MM MM' : xM} {r : Int32} (hI : zI D st s MX MM H locs)
    (h1 : fX11_down (.inr (.inr (11, 0)) :: [.inl (xs (j + 1))]) MX = some (some (.inl r), MX')) (h2 : fX12_down (.inr (.inr (12, 0)) :: [.inl (xs (j + 1))]) MM = some (some (.inl r), MM'))
    (k : ∀ (H' : Heap) (locs' : List Loc), zI D st s MX' MM' H' locs' → W p l e room_1 s m args below meth c H' locs' cells slots Q (F0 m 1285 ls [])) : W p l e room_1 s m args below meth c H locs cells slots Q (F0 m 659 ls []) := by
  have hC2 := hC
  obtain ⟨hx, hb, hml, hown, hts, hlk, hB⟩ := hC2
  refine lv_aload_n hx hb dL_law_659 rfl (lv_at hl 2 rfl) ?_
  refine zld (hv := []) hC hX hbl hl hI hj hL (k := 1) (by decide) dL_law_660 dL_law_661 dL_law_662 dL_law_663 dL_law_664 ?_
  refine zcX (As := [.inl (xs (j + 1))]) (n := 1) hC kX11_down (by decide) (xt5 (List.mem_of_getElem? (i := 83) rfl) rfl) wiX11_down weX11_down wcX11_down (by decide +kernel) (fun v hv => by simp at hv; rcases hv with rfl <;> exact ⟨_, rfl⟩) rfl ⟨_, Or.inl rfl⟩ h1 hl.1 hI (Nat.le_of_ble_eq_true rfl) hc1 hs1 dL_law_665 (fun H1 locs1 hI1 => ?_)
  refine lv_aload_n hx hb dL_law_668 rfl (lv_at hl 1 rfl) ?_
  refine zld (hv := []) hC hX hbl hl hI1 hj hL (k := 1) (by decide) dL_law_669 dL_law_670 dL_law_671 dL_law_672 dL_law_673 ?_
  refine zcM (As := [.inl (xs (j + 1))]) (n := 1) hC kX12_down (by decide) (xt8 (List.mem_of_getElem? (i := 195) rfl) rfl) wiX12_down weX12_down wcX12_down (by decide +kernel) (fun v hv => by simp at hv; rcases hv with rfl <;> exact ⟨_, rfl⟩) rfl h2 hl.1 hI1 (Nat.le_of_ble_eq_true rfl) hc1 hs1 dL_law_674 (fun H2 locs2 hI2 => ?_)
  exact lv_icmp_eq hx hb dL_law_677 (tgt := 1285) (by decide) (fun _ => k H2 locs2 hI2) (fun q => absurd rfl q)
set_option maxHeartbeats 1000000 in
theorem zc15 (hC : zC p s m args meth c D st) {b0 L j : Nat} {xs : Nat → Int32} (hX : va_X b0 L xs s s.heap) (hbl : b0 < s.heap.size) (hl : lv_has ls 4 [(3, .int (nI j)), (2, .ref (zm st s (12, 0))), (1, .ref (zx st s (11, 0))), (0, .ref b0)]) (hj : j + 6 ≤ L) (hL : L ≤ 3072) (hc1 : cells ≤ 600000) (hs1 : slots ≤ 7302250) {MX MX' MM MM' : xM} {r : Int64} (hI : zI D st s MX MM H locs)
    (h1 : fX11_inOne (.inr (.inr (11, 0)) :: [.inl (xs (j + 1)), .inl (xs (j + 2)), .inl (xs (j + 3))]) MX = some (some (.inr (.inl r)), MX')) (h2 : fX12_inOne (.inr (.inr (12, 0)) :: [.inl (xs (j + 1)), .inl (xs (j + 2)), .inl (xs (j + 3))]) MM = some (some (.inr (.inl r)), MM'))
    (k : ∀ (H' : Heap) (locs' : List Loc), zI D st s MX' MM' H' locs' → W p l e room_1 s m args below meth c H' locs' cells slots Q (F0 m 1285 ls [])) : W p l e room_1 s m args below meth c H locs cells slots Q (F0 m 682 ls []) := by
  have hC2 := hC
  obtain ⟨hx, hb, hml, hown, hts, hlk, hB⟩ := hC2
  refine lv_aload_n hx hb dL_law_682 rfl (lv_at hl 2 rfl) ?_
  refine zld (hv := []) hC hX hbl hl hI hj hL (k := 1) (by decide) dL_law_683 dL_law_684 dL_law_685 dL_law_686 dL_law_687 ?_
  refine zld (hv := []) hC hX hbl hl hI hj hL (k := 2) (by decide) dL_law_688 dL_law_689 dL_law_690 dL_law_691 dL_law_692 ?_
  refine zld (hv := []) hC hX hbl hl hI hj hL (k := 3) (by decide) dL_law_693 dL_law_694 dL_law_695 dL_law_696 dL_law_697 ?_
  refine zcX (As := [.inl (xs (j + 1)), .inl (xs (j + 2)), .inl (xs (j + 3))]) (n := 3) hC kX11_inOne (by decide) (xt5 (List.mem_of_getElem? (i := 96) rfl) rfl) wiX11_inOne weX11_inOne wcX11_inOne (by decide +kernel) (fun v hv => by simp at hv; rcases hv with rfl | rfl | rfl <;> exact ⟨_, rfl⟩) rfl ⟨0, Or.inr ⟨_, rfl, rfl⟩⟩ h1 hl.1 hI (Nat.le_of_ble_eq_true rfl) hc1 hs1 dL_law_698 (fun H1 locs1 hI1 => ?_)
  refine lv_aload_n hx hb dL_law_701 rfl (lv_at hl 1 rfl) ?_
  refine zld (hv := []) hC hX hbl hl hI1 hj hL (k := 1) (by decide) dL_law_702 dL_law_703 dL_law_704 dL_law_705 dL_law_706 ?_
  refine zld (hv := []) hC hX hbl hl hI1 hj hL (k := 2) (by decide) dL_law_707 dL_law_708 dL_law_709 dL_law_710 dL_law_711 ?_
  refine zld (hv := []) hC hX hbl hl hI1 hj hL (k := 3) (by decide) dL_law_712 dL_law_713 dL_law_714 dL_law_715 dL_law_716 ?_
  refine zcM (As := [.inl (xs (j + 1)), .inl (xs (j + 2)), .inl (xs (j + 3))]) (n := 3) hC kX12_inOne (by decide) (xt8 (List.mem_of_getElem? (i := 199) rfl) rfl) wiX12_inOne weX12_inOne wcX12_inOne (by decide +kernel) (fun v hv => by simp at hv; rcases hv with rfl | rfl | rfl <;> exact ⟨_, rfl⟩) rfl h2 hl.1 hI1 (Nat.le_of_ble_eq_true rfl) hc1 hs1 dL_law_717 (fun H2 locs2 hI2 => ?_)
  refine W.lcmp hx hb dL_law_720 ?_
  have e0 : lg_cmp r r = 0 := by simp [lg_cmp]
  show W p l e room_1 s m args below meth c H2 locs2 cells slots Q (F0 m 721 ls [.int (lg_cmp r r)])
  rw [e0]
  exact lv_if_eq hx hb dL_law_721 (tgt := 1285) (by decide) (fun _ => k H2 locs2 hI2) (fun q => absurd rfl q)
set_option maxHeartbeats 1000000 in
theorem zc16 (hC : zC p s m args meth c D st) {b0 L j : Nat} {xs : Nat → Int32} (hX : va_X b0 L xs s s.heap) (hbl : b0 < s.heap.size) (hl : lv_has ls 4 [(3, .int (nI j)), (2, .ref (zm st s (12, 0))), (1, .ref (zx st s (11, 0))), (0, .ref b0)]) (hj : j + 6 ≤ L) (hL : L ≤ 3072) (hc1 : cells ≤ 600000) (hs1 : slots ≤ 7302250) {MX MX' MM MM' : xM} {r : Int32} (hI : zI D st s MX MM H locs)
    (h1 : fX11_view (.inr (.inr (11, 0)) :: [.inl (xs (j + 1)), .inl (xs (j + 2)), .inl (xs (j + 3))]) MX = some (some (.inl r), MX')) (h2 : fX12_view (.inr (.inr (12, 0)) :: [.inl (xs (j + 1)), .inl (xs (j + 2)), .inl (xs (j + 3))]) MM = some (some (.inl r), MM'))
    (k : ∀ (H' : Heap) (locs' : List Loc), zI D st s MX' MM' H' locs' → W p l e room_1 s m args below meth c H' locs' cells slots Q (F0 m 1285 ls [])) : W p l e room_1 s m args below meth c H locs cells slots Q (F0 m 726 ls []) := by
  have hC2 := hC
  obtain ⟨hx, hb, hml, hown, hts, hlk, hB⟩ := hC2
  refine lv_aload_n hx hb dL_law_726 rfl (lv_at hl 2 rfl) ?_
  refine zld (hv := []) hC hX hbl hl hI hj hL (k := 1) (by decide) dL_law_727 dL_law_728 dL_law_729 dL_law_730 dL_law_731 ?_
  refine zld (hv := []) hC hX hbl hl hI hj hL (k := 2) (by decide) dL_law_732 dL_law_733 dL_law_734 dL_law_735 dL_law_736 ?_
  refine zld (hv := []) hC hX hbl hl hI hj hL (k := 3) (by decide) dL_law_737 dL_law_738 dL_law_739 dL_law_740 dL_law_741 ?_
  refine zcX (As := [.inl (xs (j + 1)), .inl (xs (j + 2)), .inl (xs (j + 3))]) (n := 3) hC kX11_view (by decide) (xt5 (List.mem_of_getElem? (i := 101) rfl) rfl) wiX11_view weX11_view wcX11_view (by decide +kernel) (fun v hv => by simp at hv; rcases hv with rfl | rfl | rfl <;> exact ⟨_, rfl⟩) rfl ⟨_, Or.inl rfl⟩ h1 hl.1 hI (Nat.le_of_ble_eq_true rfl) hc1 hs1 dL_law_742 (fun H1 locs1 hI1 => ?_)
  refine lv_aload_n hx hb dL_law_745 rfl (lv_at hl 1 rfl) ?_
  refine zld (hv := []) hC hX hbl hl hI1 hj hL (k := 1) (by decide) dL_law_746 dL_law_747 dL_law_748 dL_law_749 dL_law_750 ?_
  refine zld (hv := []) hC hX hbl hl hI1 hj hL (k := 2) (by decide) dL_law_751 dL_law_752 dL_law_753 dL_law_754 dL_law_755 ?_
  refine zld (hv := []) hC hX hbl hl hI1 hj hL (k := 3) (by decide) dL_law_756 dL_law_757 dL_law_758 dL_law_759 dL_law_760 ?_
  refine zcM (As := [.inl (xs (j + 1)), .inl (xs (j + 2)), .inl (xs (j + 3))]) (n := 3) hC kX12_view (by decide) (xt8 (List.mem_of_getElem? (i := 207) rfl) rfl) wiX12_view weX12_view wcX12_view (by decide +kernel) (fun v hv => by simp at hv; rcases hv with rfl | rfl | rfl <;> exact ⟨_, rfl⟩) rfl h2 hl.1 hI1 (Nat.le_of_ble_eq_true rfl) hc1 hs1 dL_law_761 (fun H2 locs2 hI2 => ?_)
  exact lv_icmp_eq hx hb dL_law_764 (tgt := 1285) (by decide) (fun _ => k H2 locs2 hI2) (fun q => absurd rfl q)
set_option maxHeartbeats 1000000 in
theorem zc17 (hC : zC p s m args meth c D st) {b0 L j : Nat} {xs : Nat → Int32} (hX : va_X b0 L xs s s.heap) (hbl : b0 < s.heap.size) (hl : lv_has ls 4 [(3, .int (nI j)), (2, .ref (zm st s (12, 0))), (1, .ref (zx st s (11, 0))), (0, .ref b0)]) (hj : j + 6 ≤ L) (hL : L ≤ 3072) (hc1 : cells ≤ 600000) (hs1 : slots ≤ 7302250) {MX MX' MM MM' : xM} {r : Int32} (hI : zI D st s MX MM H locs)
    (h1 : fX11_moves (.inr (.inr (11, 0)) :: [.inl (xs (j + 1)), .inl (xs (j + 2))]) MX = some (some (.inl r), MX')) (h2 : fX12_moves (.inr (.inr (12, 0)) :: [.inl (xs (j + 1)), .inl (xs (j + 2))]) MM = some (some (.inl r), MM'))
    (k : ∀ (H' : Heap) (locs' : List Loc), zI D st s MX' MM' H' locs' → W p l e room_1 s m args below meth c H' locs' cells slots Q (F0 m 1285 ls [])) : W p l e room_1 s m args below meth c H locs cells slots Q (F0 m 769 ls []) := by
  have hC2 := hC
  obtain ⟨hx, hb, hml, hown, hts, hlk, hB⟩ := hC2
  refine lv_aload_n hx hb dL_law_769 rfl (lv_at hl 2 rfl) ?_
  refine zld (hv := []) hC hX hbl hl hI hj hL (k := 1) (by decide) dL_law_770 dL_law_771 dL_law_772 dL_law_773 dL_law_774 ?_
  refine zld (hv := []) hC hX hbl hl hI hj hL (k := 2) (by decide) dL_law_775 dL_law_776 dL_law_777 dL_law_778 dL_law_779 ?_
  refine zcX (As := [.inl (xs (j + 1)), .inl (xs (j + 2))]) (n := 2) hC kX11_moves (by decide) (xt5 (List.mem_of_getElem? (i := 128) rfl) rfl) wiX11_moves weX11_moves wcX11_moves (by decide +kernel) (fun v hv => by simp at hv; rcases hv with rfl | rfl <;> exact ⟨_, rfl⟩) rfl ⟨_, Or.inl rfl⟩ h1 hl.1 hI (Nat.le_of_ble_eq_true rfl) hc1 hs1 dL_law_780 (fun H1 locs1 hI1 => ?_)
  refine lv_aload_n hx hb dL_law_783 rfl (lv_at hl 1 rfl) ?_
  refine zld (hv := []) hC hX hbl hl hI1 hj hL (k := 1) (by decide) dL_law_784 dL_law_785 dL_law_786 dL_law_787 dL_law_788 ?_
  refine zld (hv := []) hC hX hbl hl hI1 hj hL (k := 2) (by decide) dL_law_789 dL_law_790 dL_law_791 dL_law_792 dL_law_793 ?_
  refine zcM (As := [.inl (xs (j + 1)), .inl (xs (j + 2))]) (n := 2) hC kX12_moves (by decide) (xt8 (List.mem_of_getElem? (i := 219) rfl) rfl) wiX12_moves weX12_moves wcX12_moves (by decide +kernel) (fun v hv => by simp at hv; rcases hv with rfl | rfl <;> exact ⟨_, rfl⟩) rfl h2 hl.1 hI1 (Nat.le_of_ble_eq_true rfl) hc1 hs1 dL_law_794 (fun H2 locs2 hI2 => ?_)
  exact lv_icmp_eq hx hb dL_law_797 (tgt := 1285) (by decide) (fun _ => k H2 locs2 hI2) (fun q => absurd rfl q)
set_option maxHeartbeats 1000000 in
theorem zc18 (hC : zC p s m args meth c D st) {b0 L j : Nat} {xs : Nat → Int32} (hX : va_X b0 L xs s s.heap) (hbl : b0 < s.heap.size) (hl : lv_has ls 4 [(3, .int (nI j)), (2, .ref (zm st s (12, 0))), (1, .ref (zx st s (11, 0))), (0, .ref b0)]) (hj : j + 6 ≤ L) (hL : L ≤ 3072) (hc1 : cells ≤ 600000) (hs1 : slots ≤ 7302250) {MX MX' MM MM' : xM} {r : Int32} (hI : zI D st s MX MM H locs)
    (h1 : fX11_apart (.inr (.inr (11, 0)) :: [.inl (xs (j + 1)), .inl (xs (j + 2))]) MX = some (some (.inl r), MX')) (h2 : fX12_apart (.inr (.inr (12, 0)) :: [.inl (xs (j + 1)), .inl (xs (j + 2))]) MM = some (some (.inl r), MM'))
    (k : ∀ (H' : Heap) (locs' : List Loc), zI D st s MX' MM' H' locs' → W p l e room_1 s m args below meth c H' locs' cells slots Q (F0 m 1285 ls [])) : W p l e room_1 s m args below meth c H locs cells slots Q (F0 m 802 ls []) := by
  have hC2 := hC
  obtain ⟨hx, hb, hml, hown, hts, hlk, hB⟩ := hC2
  refine lv_aload_n hx hb dL_law_802 rfl (lv_at hl 2 rfl) ?_
  refine zld (hv := []) hC hX hbl hl hI hj hL (k := 1) (by decide) dL_law_803 dL_law_804 dL_law_805 dL_law_806 dL_law_807 ?_
  refine zld (hv := []) hC hX hbl hl hI hj hL (k := 2) (by decide) dL_law_808 dL_law_809 dL_law_810 dL_law_811 dL_law_812 ?_
  refine zcX (As := [.inl (xs (j + 1)), .inl (xs (j + 2))]) (n := 2) hC kX11_apart (by decide) (xt5 (List.mem_of_getElem? (i := 193) rfl) rfl) wiX11_apart weX11_apart wcX11_apart (by decide +kernel) (fun v hv => by simp at hv; rcases hv with rfl | rfl <;> exact ⟨_, rfl⟩) rfl ⟨_, Or.inl rfl⟩ h1 hl.1 hI (Nat.le_of_ble_eq_true rfl) hc1 hs1 dL_law_813 (fun H1 locs1 hI1 => ?_)
  refine lv_aload_n hx hb dL_law_816 rfl (lv_at hl 1 rfl) ?_
  refine zld (hv := []) hC hX hbl hl hI1 hj hL (k := 1) (by decide) dL_law_817 dL_law_818 dL_law_819 dL_law_820 dL_law_821 ?_
  refine zld (hv := []) hC hX hbl hl hI1 hj hL (k := 2) (by decide) dL_law_822 dL_law_823 dL_law_824 dL_law_825 dL_law_826 ?_
  refine zcM (As := [.inl (xs (j + 1)), .inl (xs (j + 2))]) (n := 2) hC kX12_apart (by decide) (xt9 (List.mem_of_getElem? (i := 3) rfl) rfl) wiX12_apart weX12_apart wcX12_apart (by decide +kernel) (fun v hv => by simp at hv; rcases hv with rfl | rfl <;> exact ⟨_, rfl⟩) rfl h2 hl.1 hI1 (Nat.le_of_ble_eq_true rfl) hc1 hs1 dL_law_827 (fun H2 locs2 hI2 => ?_)
  exact lv_icmp_eq hx hb dL_law_830 (tgt := 1285) (by decide) (fun _ => k H2 locs2 hI2) (fun q => absurd rfl q)
set_option maxHeartbeats 1000000 in
theorem zc19 (hC : zC p s m args meth c D st) {b0 L j : Nat} {xs : Nat → Int32} (hX : va_X b0 L xs s s.heap) (hbl : b0 < s.heap.size) (hl : lv_has ls 4 [(3, .int (nI j)), (2, .ref (zm st s (12, 0))), (1, .ref (zx st s (11, 0))), (0, .ref b0)]) (hj : j + 6 ≤ L) (hL : L ≤ 3072) (hc1 : cells ≤ 600000) (hs1 : slots ≤ 7302250) {MX MX' MM MM' : xM} {r : Int32} (hI : zI D st s MX MM H locs)
    (h1 : fX11_where (.inr (.inr (11, 0)) :: [.inl (xs (j + 1))]) MX = some (some (.inl r), MX')) (h2 : fX12_where (.inr (.inr (12, 0)) :: [.inl (xs (j + 1))]) MM = some (some (.inl r), MM'))
    (k : ∀ (H' : Heap) (locs' : List Loc), zI D st s MX' MM' H' locs' → W p l e room_1 s m args below meth c H' locs' cells slots Q (F0 m 1285 ls [])) : W p l e room_1 s m args below meth c H locs cells slots Q (F0 m 835 ls []) := by
  have hC2 := hC
  obtain ⟨hx, hb, hml, hown, hts, hlk, hB⟩ := hC2
  refine lv_aload_n hx hb dL_law_835 rfl (lv_at hl 2 rfl) ?_
  refine zld (hv := []) hC hX hbl hl hI hj hL (k := 1) (by decide) dL_law_836 dL_law_837 dL_law_838 dL_law_839 dL_law_840 ?_
  refine zcX (As := [.inl (xs (j + 1))]) (n := 1) hC kX11_where (by decide) (xt5 (List.mem_of_getElem? (i := 207) rfl) rfl) wiX11_where weX11_where wcX11_where (by decide +kernel) (fun v hv => by simp at hv; rcases hv with rfl <;> exact ⟨_, rfl⟩) rfl ⟨_, Or.inl rfl⟩ h1 hl.1 hI (Nat.le_of_ble_eq_true rfl) hc1 hs1 dL_law_841 (fun H1 locs1 hI1 => ?_)
  refine lv_aload_n hx hb dL_law_844 rfl (lv_at hl 1 rfl) ?_
  refine zld (hv := []) hC hX hbl hl hI1 hj hL (k := 1) (by decide) dL_law_845 dL_law_846 dL_law_847 dL_law_848 dL_law_849 ?_
  refine zcM (As := [.inl (xs (j + 1))]) (n := 1) hC kX12_where (by decide) (xt9 (List.mem_of_getElem? (i := 8) rfl) rfl) wiX12_where weX12_where wcX12_where (by decide +kernel) (fun v hv => by simp at hv; rcases hv with rfl <;> exact ⟨_, rfl⟩) rfl h2 hl.1 hI1 (Nat.le_of_ble_eq_true rfl) hc1 hs1 dL_law_850 (fun H2 locs2 hI2 => ?_)
  exact lv_icmp_eq hx hb dL_law_853 (tgt := 1285) (by decide) (fun _ => k H2 locs2 hI2) (fun q => absurd rfl q)
set_option maxHeartbeats 1000000 in
theorem zc20 (hC : zC p s m args meth c D st) {b0 L j : Nat} {xs : Nat → Int32} (hX : va_X b0 L xs s s.heap) (hbl : b0 < s.heap.size) (hl : lv_has ls 4 [(3, .int (nI j)), (2, .ref (zm st s (12, 0))), (1, .ref (zx st s (11, 0))), (0, .ref b0)]) (hj : j + 6 ≤ L) (hL : L ≤ 3072) (hc1 : cells ≤ 600000) (hs1 : slots ≤ 7302250) {MX MX' MM MM' : xM} {r : Int32} (hI : zI D st s MX MM H locs)
    (h1 : fX11_together (.inr (.inr (11, 0)) :: []) MX = some (some (.inl r), MX')) (h2 : fX12_together (.inr (.inr (12, 0)) :: []) MM = some (some (.inl r), MM'))
    (k : ∀ (H' : Heap) (locs' : List Loc), zI D st s MX' MM' H' locs' → W p l e room_1 s m args below meth c H' locs' cells slots Q (F0 m 1285 ls [])) : W p l e room_1 s m args below meth c H locs cells slots Q (F0 m 858 ls []) := by
  have hC2 := hC
  obtain ⟨hx, hb, hml, hown, hts, hlk, hB⟩ := hC2
  refine lv_aload_n hx hb dL_law_858 rfl (lv_at hl 2 rfl) ?_
  refine zcX (As := []) (n := 0) hC kX11_together (by decide) (xt5 (List.mem_of_getElem? (i := 211) rfl) rfl) wiX11_together weX11_together wcX11_together (by decide +kernel) (fun v hv => by cases hv) rfl ⟨_, Or.inl rfl⟩ h1 hl.1 hI (Nat.le_of_ble_eq_true rfl) hc1 hs1 dL_law_859 (fun H1 locs1 hI1 => ?_)
  refine lv_aload_n hx hb dL_law_862 rfl (lv_at hl 1 rfl) ?_
  refine zcM (As := []) (n := 0) hC kX12_together (by decide) (xt9 (List.mem_of_getElem? (i := 12) rfl) rfl) wiX12_together weX12_together wcX12_together (by decide +kernel) (fun v hv => by cases hv) rfl h2 hl.1 hI1 (Nat.le_of_ble_eq_true rfl) hc1 hs1 dL_law_863 (fun H2 locs2 hI2 => ?_)
  exact lv_icmp_eq hx hb dL_law_866 (tgt := 1285) (by decide) (fun _ => k H2 locs2 hI2) (fun q => absurd rfl q)
set_option maxHeartbeats 1000000 in
theorem zc21 (hC : zC p s m args meth c D st) {b0 L j : Nat} {xs : Nat → Int32} (hX : va_X b0 L xs s s.heap) (hbl : b0 < s.heap.size) (hl : lv_has ls 4 [(3, .int (nI j)), (2, .ref (zm st s (12, 0))), (1, .ref (zx st s (11, 0))), (0, .ref b0)]) (hj : j + 6 ≤ L) (hL : L ≤ 3072) (hc1 : cells ≤ 600000) (hs1 : slots ≤ 7302250) {MX MX' MM MM' : xM} {r : Int32} (hI : zI D st s MX MM H locs)
    (h1 : fX11_swollen (.inr (.inr (11, 0)) :: [.inl (xs (j + 1)), .inl (xs (j + 2)), .inl (if (xs (j + 3)) = 0 then 0 else 1)]) MX = some (some (.inl r), MX')) (h2 : fX12_swollen (.inr (.inr (12, 0)) :: [.inl (xs (j + 1)), .inl (xs (j + 2)), .inl (if (xs (j + 3)) = 0 then 0 else 1)]) MM = some (some (.inl r), MM'))
    (k : ∀ (H' : Heap) (locs' : List Loc), zI D st s MX' MM' H' locs' → W p l e room_1 s m args below meth c H' locs' cells slots Q (F0 m 1285 ls [])) : W p l e room_1 s m args below meth c H locs cells slots Q (F0 m 871 ls []) := by
  have hC2 := hC
  obtain ⟨hx, hb, hml, hown, hts, hlk, hB⟩ := hC2
  refine lv_aload_n hx hb dL_law_871 rfl (lv_at hl 2 rfl) ?_
  refine zld (hv := []) hC hX hbl hl hI hj hL (k := 1) (by decide) dL_law_872 dL_law_873 dL_law_874 dL_law_875 dL_law_876 ?_
  refine zld (hv := []) hC hX hbl hl hI hj hL (k := 2) (by decide) dL_law_877 dL_law_878 dL_law_879 dL_law_880 dL_law_881 ?_
  refine zld (hv := []) hC hX hbl hl hI hj hL (k := 3) (by decide) dL_law_882 dL_law_883 dL_law_884 dL_law_885 dL_law_886 ?_
  refine zbo hC dL_law_887 dL_law_890 dL_law_891 dL_law_894 ?_
  refine zcX (As := [.inl (xs (j + 1)), .inl (xs (j + 2)), .inl (if (xs (j + 3)) = 0 then 0 else 1)]) (n := 3) hC kX11_swollen (by decide) (xt5 (List.mem_of_getElem? (i := 215) rfl) rfl) wiX11_swollen weX11_swollen wcX11_swollen (by decide +kernel) (fun v hv => by simp at hv; rcases hv with rfl | rfl | rfl <;> exact ⟨_, rfl⟩) rfl ⟨_, Or.inl rfl⟩ h1 hl.1 hI (Nat.le_of_ble_eq_true rfl) hc1 hs1 dL_law_895 (fun H1 locs1 hI1 => ?_)
  refine lv_aload_n hx hb dL_law_898 rfl (lv_at hl 1 rfl) ?_
  refine zld (hv := []) hC hX hbl hl hI1 hj hL (k := 1) (by decide) dL_law_899 dL_law_900 dL_law_901 dL_law_902 dL_law_903 ?_
  refine zld (hv := []) hC hX hbl hl hI1 hj hL (k := 2) (by decide) dL_law_904 dL_law_905 dL_law_906 dL_law_907 dL_law_908 ?_
  refine zld (hv := []) hC hX hbl hl hI1 hj hL (k := 3) (by decide) dL_law_909 dL_law_910 dL_law_911 dL_law_912 dL_law_913 ?_
  refine zbo hC dL_law_914 dL_law_917 dL_law_918 dL_law_921 ?_
  refine zcM (As := [.inl (xs (j + 1)), .inl (xs (j + 2)), .inl (if (xs (j + 3)) = 0 then 0 else 1)]) (n := 3) hC kX12_swollen (by decide) (xt9 (List.mem_of_getElem? (i := 16) rfl) rfl) wiX12_swollen weX12_swollen wcX12_swollen (by decide +kernel) (fun v hv => by simp at hv; rcases hv with rfl | rfl | rfl <;> exact ⟨_, rfl⟩) rfl h2 hl.1 hI1 (Nat.le_of_ble_eq_true rfl) hc1 hs1 dL_law_922 (fun H2 locs2 hI2 => ?_)
  exact lv_icmp_eq hx hb dL_law_925 (tgt := 1285) (by decide) (fun _ => k H2 locs2 hI2) (fun q => absurd rfl q)
set_option maxHeartbeats 1000000 in
theorem zc22 (hC : zC p s m args meth c D st) {b0 L j : Nat} {xs : Nat → Int32} (hX : va_X b0 L xs s s.heap) (hbl : b0 < s.heap.size) (hl : lv_has ls 4 [(3, .int (nI j)), (2, .ref (zm st s (12, 0))), (1, .ref (zx st s (11, 0))), (0, .ref b0)]) (hj : j + 6 ≤ L) (hL : L ≤ 3072) (hc1 : cells ≤ 600000) (hs1 : slots ≤ 7302250) {MX MX' MM MM' : xM} {r : Int64} (hI : zI D st s MX MM H locs)
    (h1 : fX11_safe (.inr (.inr (11, 0)) :: [.inl (xs (j + 1))]) MX = some (some (.inr (.inl r)), MX')) (h2 : fX12_safe (.inr (.inr (12, 0)) :: [.inl (xs (j + 1))]) MM = some (some (.inr (.inl r)), MM'))
    (k : ∀ (H' : Heap) (locs' : List Loc), zI D st s MX' MM' H' locs' → W p l e room_1 s m args below meth c H' locs' cells slots Q (F0 m 1285 ls [])) : W p l e room_1 s m args below meth c H locs cells slots Q (F0 m 930 ls []) := by
  have hC2 := hC
  obtain ⟨hx, hb, hml, hown, hts, hlk, hB⟩ := hC2
  refine lv_aload_n hx hb dL_law_930 rfl (lv_at hl 2 rfl) ?_
  refine zld (hv := []) hC hX hbl hl hI hj hL (k := 1) (by decide) dL_law_931 dL_law_932 dL_law_933 dL_law_934 dL_law_935 ?_
  refine zcX (As := [.inl (xs (j + 1))]) (n := 1) hC kX11_safe (by decide) (xt5 (List.mem_of_getElem? (i := 220) rfl) rfl) wiX11_safe weX11_safe wcX11_safe (by decide +kernel) (fun v hv => by simp at hv; rcases hv with rfl <;> exact ⟨_, rfl⟩) rfl ⟨0, Or.inr ⟨_, rfl, rfl⟩⟩ h1 hl.1 hI (Nat.le_of_ble_eq_true rfl) hc1 hs1 dL_law_936 (fun H1 locs1 hI1 => ?_)
  refine lv_aload_n hx hb dL_law_939 rfl (lv_at hl 1 rfl) ?_
  refine zld (hv := []) hC hX hbl hl hI1 hj hL (k := 1) (by decide) dL_law_940 dL_law_941 dL_law_942 dL_law_943 dL_law_944 ?_
  refine zcM (As := [.inl (xs (j + 1))]) (n := 1) hC kX12_safe (by decide) (xt9 (List.mem_of_getElem? (i := 28) rfl) rfl) wiX12_safe weX12_safe wcX12_safe (by decide +kernel) (fun v hv => by simp at hv; rcases hv with rfl <;> exact ⟨_, rfl⟩) rfl h2 hl.1 hI1 (Nat.le_of_ble_eq_true rfl) hc1 hs1 dL_law_945 (fun H2 locs2 hI2 => ?_)
  refine W.lcmp hx hb dL_law_948 ?_
  have e0 : lg_cmp r r = 0 := by simp [lg_cmp]
  show W p l e room_1 s m args below meth c H2 locs2 cells slots Q (F0 m 949 ls [.int (lg_cmp r r)])
  rw [e0]
  exact lv_if_eq hx hb dL_law_949 (tgt := 1285) (by decide) (fun _ => k H2 locs2 hI2) (fun q => absurd rfl q)
set_option maxHeartbeats 1000000 in
theorem zc23 (hC : zC p s m args meth c D st) {b0 L j : Nat} {xs : Nat → Int32} (hX : va_X b0 L xs s s.heap) (hbl : b0 < s.heap.size) (hl : lv_has ls 4 [(3, .int (nI j)), (2, .ref (zm st s (12, 0))), (1, .ref (zx st s (11, 0))), (0, .ref b0)]) (hj : j + 6 ≤ L) (hL : L ≤ 3072) (hc1 : cells ≤ 600000) (hs1 : slots ≤ 7302250) {MX MX' MM MM' : xM} {r : Int32} (hI : zI D st s MX MM H locs)
    (h1 : fX11_safeCut (.inr (.inr (11, 0)) :: [.inl (xs (j + 1)), .inl (xs (j + 2)), .inl (xs (j + 3))]) MX = some (some (.inl r), MX')) (h2 : fX12_safeCut (.inr (.inr (12, 0)) :: [.inl (xs (j + 1)), .inl (xs (j + 2)), .inl (xs (j + 3))]) MM = some (some (.inl r), MM'))
    (k : ∀ (H' : Heap) (locs' : List Loc), zI D st s MX' MM' H' locs' → W p l e room_1 s m args below meth c H' locs' cells slots Q (F0 m 1285 ls [])) : W p l e room_1 s m args below meth c H locs cells slots Q (F0 m 954 ls []) := by
  have hC2 := hC
  obtain ⟨hx, hb, hml, hown, hts, hlk, hB⟩ := hC2
  refine lv_aload_n hx hb dL_law_954 rfl (lv_at hl 2 rfl) ?_
  refine zld (hv := []) hC hX hbl hl hI hj hL (k := 1) (by decide) dL_law_955 dL_law_956 dL_law_957 dL_law_958 dL_law_959 ?_
  refine zld (hv := []) hC hX hbl hl hI hj hL (k := 2) (by decide) dL_law_960 dL_law_961 dL_law_962 dL_law_963 dL_law_964 ?_
  refine zld (hv := []) hC hX hbl hl hI hj hL (k := 3) (by decide) dL_law_965 dL_law_966 dL_law_967 dL_law_968 dL_law_969 ?_
  refine zcX (As := [.inl (xs (j + 1)), .inl (xs (j + 2)), .inl (xs (j + 3))]) (n := 3) hC kX11_safeCut (by decide) (xt5 (List.mem_of_getElem? (i := 232) rfl) rfl) wiX11_safeCut weX11_safeCut wcX11_safeCut (by decide +kernel) (fun v hv => by simp at hv; rcases hv with rfl | rfl | rfl <;> exact ⟨_, rfl⟩) rfl ⟨_, Or.inl rfl⟩ h1 hl.1 hI (Nat.le_of_ble_eq_true rfl) hc1 hs1 dL_law_970 (fun H1 locs1 hI1 => ?_)
  refine lv_aload_n hx hb dL_law_973 rfl (lv_at hl 1 rfl) ?_
  refine zld (hv := []) hC hX hbl hl hI1 hj hL (k := 1) (by decide) dL_law_974 dL_law_975 dL_law_976 dL_law_977 dL_law_978 ?_
  refine zld (hv := []) hC hX hbl hl hI1 hj hL (k := 2) (by decide) dL_law_979 dL_law_980 dL_law_981 dL_law_982 dL_law_983 ?_
  refine zld (hv := []) hC hX hbl hl hI1 hj hL (k := 3) (by decide) dL_law_984 dL_law_985 dL_law_986 dL_law_987 dL_law_988 ?_
  refine zcM (As := [.inl (xs (j + 1)), .inl (xs (j + 2)), .inl (xs (j + 3))]) (n := 3) hC kX12_safeCut (by decide) (xt9 (List.mem_of_getElem? (i := 20) rfl) rfl) wiX12_safeCut weX12_safeCut wcX12_safeCut (by decide +kernel) (fun v hv => by simp at hv; rcases hv with rfl | rfl | rfl <;> exact ⟨_, rfl⟩) rfl h2 hl.1 hI1 (Nat.le_of_ble_eq_true rfl) hc1 hs1 dL_law_989 (fun H2 locs2 hI2 => ?_)
  exact lv_icmp_eq hx hb dL_law_992 (tgt := 1285) (by decide) (fun _ => k H2 locs2 hI2) (fun q => absurd rfl q)
set_option maxHeartbeats 1000000 in
theorem zc24 (hC : zC p s m args meth c D st) {b0 L j : Nat} {xs : Nat → Int32} (hX : va_X b0 L xs s s.heap) (hbl : b0 < s.heap.size) (hl : lv_has ls 4 [(3, .int (nI j)), (2, .ref (zm st s (12, 0))), (1, .ref (zx st s (11, 0))), (0, .ref b0)]) (hj : j + 6 ≤ L) (hL : L ≤ 3072) (hc1 : cells ≤ 600000) (hs1 : slots ≤ 7302250) {MX MX' MM MM' : xM} {r : Int32} (hI : zI D st s MX MM H locs)
    (h1 : fX11_holding (.inr (.inr (11, 0)) :: [.inl (xs (j + 1))]) MX = some (some (.inl r), MX')) (h2 : fX12_holding (.inr (.inr (12, 0)) :: [.inl (xs (j + 1))]) MM = some (some (.inl r), MM'))
    (k : ∀ (H' : Heap) (locs' : List Loc), zI D st s MX' MM' H' locs' → W p l e room_1 s m args below meth c H' locs' cells slots Q (F0 m 1285 ls [])) : W p l e room_1 s m args below meth c H locs cells slots Q (F0 m 997 ls []) := by
  have hC2 := hC
  obtain ⟨hx, hb, hml, hown, hts, hlk, hB⟩ := hC2
  refine lv_aload_n hx hb dL_law_997 rfl (lv_at hl 2 rfl) ?_
  refine zld (hv := []) hC hX hbl hl hI hj hL (k := 1) (by decide) dL_law_998 dL_law_999 dL_law_1000 dL_law_1001 dL_law_1002 ?_
  refine zcX (As := [.inl (xs (j + 1))]) (n := 1) hC kX11_holding (by decide) (xt5 (List.mem_of_getElem? (i := 236) rfl) rfl) wiX11_holding weX11_holding wcX11_holding (by decide +kernel) (fun v hv => by simp at hv; rcases hv with rfl <;> exact ⟨_, rfl⟩) rfl ⟨_, Or.inl rfl⟩ h1 hl.1 hI (Nat.le_of_ble_eq_true rfl) hc1 hs1 dL_law_1003 (fun H1 locs1 hI1 => ?_)
  refine lv_aload_n hx hb dL_law_1006 rfl (lv_at hl 1 rfl) ?_
  refine zld (hv := []) hC hX hbl hl hI1 hj hL (k := 1) (by decide) dL_law_1007 dL_law_1008 dL_law_1009 dL_law_1010 dL_law_1011 ?_
  refine zcM (As := [.inl (xs (j + 1))]) (n := 1) hC kX12_holding (by decide) (xt9 (List.mem_of_getElem? (i := 42) rfl) rfl) wiX12_holding weX12_holding wcX12_holding (by decide +kernel) (fun v hv => by simp at hv; rcases hv with rfl <;> exact ⟨_, rfl⟩) rfl h2 hl.1 hI1 (Nat.le_of_ble_eq_true rfl) hc1 hs1 dL_law_1012 (fun H2 locs2 hI2 => ?_)
  exact lv_icmp_eq hx hb dL_law_1015 (tgt := 1285) (by decide) (fun _ => k H2 locs2 hI2) (fun q => absurd rfl q)
set_option maxHeartbeats 1000000 in
theorem zc25 (hC : zC p s m args meth c D st) {b0 L j : Nat} {xs : Nat → Int32} (hX : va_X b0 L xs s s.heap) (hbl : b0 < s.heap.size) (hl : lv_has ls 4 [(3, .int (nI j)), (2, .ref (zm st s (12, 0))), (1, .ref (zx st s (11, 0))), (0, .ref b0)]) (hj : j + 6 ≤ L) (hL : L ≤ 3072) (hc1 : cells ≤ 600000) (hs1 : slots ≤ 7302250) {MX MX' MM MM' : xM} {r : Int64} (hI : zI D st s MX MM H locs)
    (h1 : fX11_oneByOne (.inr (.inr (11, 0)) :: [.inl (xs (j + 1))]) MX = some (some (.inr (.inl r)), MX')) (h2 : fX12_oneByOne (.inr (.inr (12, 0)) :: [.inl (xs (j + 1))]) MM = some (some (.inr (.inl r)), MM'))
    (k : ∀ (H' : Heap) (locs' : List Loc), zI D st s MX' MM' H' locs' → W p l e room_1 s m args below meth c H' locs' cells slots Q (F0 m 1285 ls [])) : W p l e room_1 s m args below meth c H locs cells slots Q (F0 m 1020 ls []) := by
  have hC2 := hC
  obtain ⟨hx, hb, hml, hown, hts, hlk, hB⟩ := hC2
  refine lv_aload_n hx hb dL_law_1020 rfl (lv_at hl 2 rfl) ?_
  refine zld (hv := []) hC hX hbl hl hI hj hL (k := 1) (by decide) dL_law_1021 dL_law_1022 dL_law_1023 dL_law_1024 dL_law_1025 ?_
  refine zcX (As := [.inl (xs (j + 1))]) (n := 1) hC kX11_oneByOne (by decide) (xt6 (List.mem_of_getElem? (i := 0) rfl) rfl) wiX11_oneByOne weX11_oneByOne wcX11_oneByOne (by decide +kernel) (fun v hv => by simp at hv; rcases hv with rfl <;> exact ⟨_, rfl⟩) rfl ⟨0, Or.inr ⟨_, rfl, rfl⟩⟩ h1 hl.1 hI (Nat.le_of_ble_eq_true rfl) hc1 hs1 dL_law_1026 (fun H1 locs1 hI1 => ?_)
  refine lv_aload_n hx hb dL_law_1029 rfl (lv_at hl 1 rfl) ?_
  refine zld (hv := []) hC hX hbl hl hI1 hj hL (k := 1) (by decide) dL_law_1030 dL_law_1031 dL_law_1032 dL_law_1033 dL_law_1034 ?_
  refine zcM (As := [.inl (xs (j + 1))]) (n := 1) hC kX12_oneByOne (by decide) (xt9 (List.mem_of_getElem? (i := 46) rfl) rfl) wiX12_oneByOne weX12_oneByOne wcX12_oneByOne (by decide +kernel) (fun v hv => by simp at hv; rcases hv with rfl <;> exact ⟨_, rfl⟩) rfl h2 hl.1 hI1 (Nat.le_of_ble_eq_true rfl) hc1 hs1 dL_law_1035 (fun H2 locs2 hI2 => ?_)
  refine W.lcmp hx hb dL_law_1038 ?_
  have e0 : lg_cmp r r = 0 := by simp [lg_cmp]
  show W p l e room_1 s m args below meth c H2 locs2 cells slots Q (F0 m 1039 ls [.int (lg_cmp r r)])
  rw [e0]
  exact lv_if_eq hx hb dL_law_1039 (tgt := 1285) (by decide) (fun _ => k H2 locs2 hI2) (fun q => absurd rfl q)
set_option maxHeartbeats 1000000 in
theorem zc26 (hC : zC p s m args meth c D st) {b0 L j : Nat} {xs : Nat → Int32} (hX : va_X b0 L xs s s.heap) (hbl : b0 < s.heap.size) (hl : lv_has ls 4 [(3, .int (nI j)), (2, .ref (zm st s (12, 0))), (1, .ref (zx st s (11, 0))), (0, .ref b0)]) (hj : j + 6 ≤ L) (hL : L ≤ 3072) (hc1 : cells ≤ 600000) (hs1 : slots ≤ 7302250) {MX MX' MM MM' : xM} {r : Int32} (hI : zI D st s MX MM H locs)
    (h1 : fX11_record (.inr (.inr (11, 0)) :: []) MX = some (some (.inl r), MX')) (h2 : fX12_record (.inr (.inr (12, 0)) :: []) MM = some (some (.inl r), MM'))
    (k : ∀ (H' : Heap) (locs' : List Loc), zI D st s MX' MM' H' locs' → W p l e room_1 s m args below meth c H' locs' cells slots Q (F0 m 1285 ls [])) : W p l e room_1 s m args below meth c H locs cells slots Q (F0 m 1044 ls []) := by
  have hC2 := hC
  obtain ⟨hx, hb, hml, hown, hts, hlk, hB⟩ := hC2
  refine lv_aload_n hx hb dL_law_1044 rfl (lv_at hl 2 rfl) ?_
  refine zcX (As := []) (n := 0) hC kX11_record (by decide) (xt6 (List.mem_of_getElem? (i := 13) rfl) rfl) wiX11_record weX11_record wcX11_record (by decide +kernel) (fun v hv => by cases hv) rfl ⟨_, Or.inl rfl⟩ h1 hl.1 hI (Nat.le_of_ble_eq_true rfl) hc1 hs1 dL_law_1045 (fun H1 locs1 hI1 => ?_)
  refine lv_aload_n hx hb dL_law_1048 rfl (lv_at hl 1 rfl) ?_
  refine zcM (As := []) (n := 0) hC kX12_record (by decide) (xt9 (List.mem_of_getElem? (i := 50) rfl) rfl) wiX12_record weX12_record wcX12_record (by decide +kernel) (fun v hv => by cases hv) rfl h2 hl.1 hI1 (Nat.le_of_ble_eq_true rfl) hc1 hs1 dL_law_1049 (fun H2 locs2 hI2 => ?_)
  exact lv_icmp_eq hx hb dL_law_1052 (tgt := 1285) (by decide) (fun _ => k H2 locs2 hI2) (fun q => absurd rfl q)
set_option maxHeartbeats 1000000 in
theorem zc27 (hC : zC p s m args meth c D st) {b0 L j : Nat} {xs : Nat → Int32} (hX : va_X b0 L xs s s.heap) (hbl : b0 < s.heap.size) (hl : lv_has ls 4 [(3, .int (nI j)), (2, .ref (zm st s (12, 0))), (1, .ref (zx st s (11, 0))), (0, .ref b0)]) (hj : j + 6 ≤ L) (hL : L ≤ 3072) (hc1 : cells ≤ 600000) (hs1 : slots ≤ 7302250) {MX MX' MM MM' : xM} {r : Int32} (hI : zI D st s MX MM H locs)
    (h1 : fX11_judged (.inr (.inr (11, 0)) :: [.inl (xs (j + 1))]) MX = some (some (.inl r), MX')) (h2 : fX12_judged (.inr (.inr (12, 0)) :: [.inl (xs (j + 1))]) MM = some (some (.inl r), MM'))
    (k : ∀ (H' : Heap) (locs' : List Loc), zI D st s MX' MM' H' locs' → W p l e room_1 s m args below meth c H' locs' cells slots Q (F0 m 1285 ls [])) : W p l e room_1 s m args below meth c H locs cells slots Q (F0 m 1057 ls []) := by
  have hC2 := hC
  obtain ⟨hx, hb, hml, hown, hts, hlk, hB⟩ := hC2
  refine lv_aload_n hx hb dL_law_1057 rfl (lv_at hl 2 rfl) ?_
  refine zld (hv := []) hC hX hbl hl hI hj hL (k := 1) (by decide) dL_law_1058 dL_law_1059 dL_law_1060 dL_law_1061 dL_law_1062 ?_
  refine zcX (As := [.inl (xs (j + 1))]) (n := 1) hC kX11_judged (by decide) (xt6 (List.mem_of_getElem? (i := 54) rfl) rfl) wiX11_judged weX11_judged wcX11_judged (by decide +kernel) (fun v hv => by simp at hv; rcases hv with rfl <;> exact ⟨_, rfl⟩) rfl ⟨_, Or.inl rfl⟩ h1 hl.1 hI (Nat.le_of_ble_eq_true rfl) hc1 hs1 dL_law_1063 (fun H1 locs1 hI1 => ?_)
  refine lv_aload_n hx hb dL_law_1066 rfl (lv_at hl 1 rfl) ?_
  refine zld (hv := []) hC hX hbl hl hI1 hj hL (k := 1) (by decide) dL_law_1067 dL_law_1068 dL_law_1069 dL_law_1070 dL_law_1071 ?_
  refine zcM (As := [.inl (xs (j + 1))]) (n := 1) hC kX12_judged (by decide) (xt9 (List.mem_of_getElem? (i := 66) rfl) rfl) wiX12_judged weX12_judged wcX12_judged (by decide +kernel) (fun v hv => by simp at hv; rcases hv with rfl <;> exact ⟨_, rfl⟩) rfl h2 hl.1 hI1 (Nat.le_of_ble_eq_true rfl) hc1 hs1 dL_law_1072 (fun H2 locs2 hI2 => ?_)
  exact lv_icmp_eq hx hb dL_law_1075 (tgt := 1285) (by decide) (fun _ => k H2 locs2 hI2) (fun q => absurd rfl q)
set_option maxHeartbeats 1000000 in
theorem zc28 (hC : zC p s m args meth c D st) {b0 L j : Nat} {xs : Nat → Int32} (hX : va_X b0 L xs s s.heap) (hbl : b0 < s.heap.size) (hl : lv_has ls 4 [(3, .int (nI j)), (2, .ref (zm st s (12, 0))), (1, .ref (zx st s (11, 0))), (0, .ref b0)]) (hj : j + 6 ≤ L) (hL : L ≤ 3072) (hc1 : cells ≤ 600000) (hs1 : slots ≤ 7302250) {MX MX' MM MM' : xM} {r : Int32} (hI : zI D st s MX MM H locs)
    (h1 : fX11_pull (.inr (.inr (11, 0)) :: [.inl (xs (j + 1)), .inl (xs (j + 2)), .inl (xs (j + 3)), .inl (xs (j + 4))]) MX = some (some (.inl r), MX')) (h2 : fX12_pull (.inr (.inr (12, 0)) :: [.inl (xs (j + 1)), .inl (xs (j + 2)), .inl (xs (j + 3)), .inl (xs (j + 4))]) MM = some (some (.inl r), MM'))
    (k : ∀ (H' : Heap) (locs' : List Loc), zI D st s MX' MM' H' locs' → W p l e room_1 s m args below meth c H' locs' cells slots Q (F0 m 1285 ls [])) : W p l e room_1 s m args below meth c H locs cells slots Q (F0 m 1080 ls []) := by
  have hC2 := hC
  obtain ⟨hx, hb, hml, hown, hts, hlk, hB⟩ := hC2
  refine lv_aload_n hx hb dL_law_1080 rfl (lv_at hl 2 rfl) ?_
  refine zld (hv := []) hC hX hbl hl hI hj hL (k := 1) (by decide) dL_law_1081 dL_law_1082 dL_law_1083 dL_law_1084 dL_law_1085 ?_
  refine zld (hv := []) hC hX hbl hl hI hj hL (k := 2) (by decide) dL_law_1086 dL_law_1087 dL_law_1088 dL_law_1089 dL_law_1090 ?_
  refine zld (hv := []) hC hX hbl hl hI hj hL (k := 3) (by decide) dL_law_1091 dL_law_1092 dL_law_1093 dL_law_1094 dL_law_1095 ?_
  refine zld (hv := []) hC hX hbl hl hI hj hL (k := 4) (by decide) dL_law_1096 dL_law_1097 dL_law_1098 dL_law_1099 dL_law_1100 ?_
  refine zcX (As := [.inl (xs (j + 1)), .inl (xs (j + 2)), .inl (xs (j + 3)), .inl (xs (j + 4))]) (n := 4) hC kX11_pull (by decide) (xt6 (List.mem_of_getElem? (i := 62) rfl) rfl) wiX11_pull weX11_pull wcX11_pull (by decide +kernel) (fun v hv => by simp at hv; rcases hv with rfl | rfl | rfl | rfl <;> exact ⟨_, rfl⟩) rfl ⟨_, Or.inl rfl⟩ h1 hl.1 hI (Nat.le_of_ble_eq_true rfl) hc1 hs1 dL_law_1101 (fun H1 locs1 hI1 => ?_)
  refine lv_aload_n hx hb dL_law_1104 rfl (lv_at hl 1 rfl) ?_
  refine zld (hv := []) hC hX hbl hl hI1 hj hL (k := 1) (by decide) dL_law_1105 dL_law_1106 dL_law_1107 dL_law_1108 dL_law_1109 ?_
  refine zld (hv := []) hC hX hbl hl hI1 hj hL (k := 2) (by decide) dL_law_1110 dL_law_1111 dL_law_1112 dL_law_1113 dL_law_1114 ?_
  refine zld (hv := []) hC hX hbl hl hI1 hj hL (k := 3) (by decide) dL_law_1115 dL_law_1116 dL_law_1117 dL_law_1118 dL_law_1119 ?_
  refine zld (hv := []) hC hX hbl hl hI1 hj hL (k := 4) (by decide) dL_law_1120 dL_law_1121 dL_law_1122 dL_law_1123 dL_law_1124 ?_
  refine zcM (As := [.inl (xs (j + 1)), .inl (xs (j + 2)), .inl (xs (j + 3)), .inl (xs (j + 4))]) (n := 4) hC kX12_pull (by decide) (xt9 (List.mem_of_getElem? (i := 70) rfl) rfl) wiX12_pull weX12_pull wcX12_pull (by decide +kernel) (fun v hv => by simp at hv; rcases hv with rfl | rfl | rfl | rfl <;> exact ⟨_, rfl⟩) rfl h2 hl.1 hI1 (Nat.le_of_ble_eq_true rfl) hc1 hs1 dL_law_1125 (fun H2 locs2 hI2 => ?_)
  exact lv_icmp_eq hx hb dL_law_1128 (tgt := 1285) (by decide) (fun _ => k H2 locs2 hI2) (fun q => absurd rfl q)
set_option maxHeartbeats 1000000 in
theorem zc29 (hC : zC p s m args meth c D st) {b0 L j : Nat} {xs : Nat → Int32} (hX : va_X b0 L xs s s.heap) (hbl : b0 < s.heap.size) (hl : lv_has ls 4 [(3, .int (nI j)), (2, .ref (zm st s (12, 0))), (1, .ref (zx st s (11, 0))), (0, .ref b0)]) (hj : j + 6 ≤ L) (hL : L ≤ 3072) (hc1 : cells ≤ 600000) (hs1 : slots ≤ 7302250) {MX MX' MM MM' : xM} {r : Int32} (hI : zI D st s MX MM H locs)
    (h1 : fX11_like (.inr (.inr (11, 0)) :: [.inl (xs (j + 1)), .inl (xs (j + 2)), .inl (xs (j + 3))]) MX = some (some (.inl r), MX')) (h2 : fX12_like (.inr (.inr (12, 0)) :: [.inl (xs (j + 1)), .inl (xs (j + 2)), .inl (xs (j + 3))]) MM = some (some (.inl r), MM'))
    (k : ∀ (H' : Heap) (locs' : List Loc), zI D st s MX' MM' H' locs' → W p l e room_1 s m args below meth c H' locs' cells slots Q (F0 m 1285 ls [])) : W p l e room_1 s m args below meth c H locs cells slots Q (F0 m 1133 ls []) := by
  have hC2 := hC
  obtain ⟨hx, hb, hml, hown, hts, hlk, hB⟩ := hC2
  refine lv_aload_n hx hb dL_law_1133 rfl (lv_at hl 2 rfl) ?_
  refine zld (hv := []) hC hX hbl hl hI hj hL (k := 1) (by decide) dL_law_1134 dL_law_1135 dL_law_1136 dL_law_1137 dL_law_1138 ?_
  refine zld (hv := []) hC hX hbl hl hI hj hL (k := 2) (by decide) dL_law_1139 dL_law_1140 dL_law_1141 dL_law_1142 dL_law_1143 ?_
  refine zld (hv := []) hC hX hbl hl hI hj hL (k := 3) (by decide) dL_law_1144 dL_law_1145 dL_law_1146 dL_law_1147 dL_law_1148 ?_
  refine zcX (As := [.inl (xs (j + 1)), .inl (xs (j + 2)), .inl (xs (j + 3))]) (n := 3) hC kX11_like (by decide) (xt6 (List.mem_of_getElem? (i := 78) rfl) rfl) wiX11_like weX11_like wcX11_like (by decide +kernel) (fun v hv => by simp at hv; rcases hv with rfl | rfl | rfl <;> exact ⟨_, rfl⟩) rfl ⟨_, Or.inl rfl⟩ h1 hl.1 hI (Nat.le_of_ble_eq_true rfl) hc1 hs1 dL_law_1149 (fun H1 locs1 hI1 => ?_)
  refine lv_aload_n hx hb dL_law_1152 rfl (lv_at hl 1 rfl) ?_
  refine zld (hv := []) hC hX hbl hl hI1 hj hL (k := 1) (by decide) dL_law_1153 dL_law_1154 dL_law_1155 dL_law_1156 dL_law_1157 ?_
  refine zld (hv := []) hC hX hbl hl hI1 hj hL (k := 2) (by decide) dL_law_1158 dL_law_1159 dL_law_1160 dL_law_1161 dL_law_1162 ?_
  refine zld (hv := []) hC hX hbl hl hI1 hj hL (k := 3) (by decide) dL_law_1163 dL_law_1164 dL_law_1165 dL_law_1166 dL_law_1167 ?_
  refine zcM (As := [.inl (xs (j + 1)), .inl (xs (j + 2)), .inl (xs (j + 3))]) (n := 3) hC kX12_like (by decide) (xt9 (List.mem_of_getElem? (i := 85) rfl) rfl) wiX12_like weX12_like wcX12_like (by decide +kernel) (fun v hv => by simp at hv; rcases hv with rfl | rfl | rfl <;> exact ⟨_, rfl⟩) rfl h2 hl.1 hI1 (Nat.le_of_ble_eq_true rfl) hc1 hs1 dL_law_1168 (fun H2 locs2 hI2 => ?_)
  exact lv_icmp_eq hx hb dL_law_1171 (tgt := 1285) (by decide) (fun _ => k H2 locs2 hI2) (fun q => absurd rfl q)
set_option maxHeartbeats 1000000 in
theorem zc30 (hC : zC p s m args meth c D st) {b0 L j : Nat} {xs : Nat → Int32} (hX : va_X b0 L xs s s.heap) (hbl : b0 < s.heap.size) (hl : lv_has ls 4 [(3, .int (nI j)), (2, .ref (zm st s (12, 0))), (1, .ref (zx st s (11, 0))), (0, .ref b0)]) (hj : j + 6 ≤ L) (hL : L ≤ 3072) (hc1 : cells ≤ 600000) (hs1 : slots ≤ 7302250) {MX MX' MM MM' : xM} {r : Int32} (hI : zI D st s MX MM H locs)
    (h1 : fX11_mirrored (.inr (.inr (11, 0)) :: [.inl (xs (j + 1)), .inl (xs (j + 2))]) MX = some (some (.inl r), MX')) (h2 : fX12_mirrored (.inr (.inr (12, 0)) :: [.inl (xs (j + 1)), .inl (xs (j + 2))]) MM = some (some (.inl r), MM'))
    (k : ∀ (H' : Heap) (locs' : List Loc), zI D st s MX' MM' H' locs' → W p l e room_1 s m args below meth c H' locs' cells slots Q (F0 m 1285 ls [])) : W p l e room_1 s m args below meth c H locs cells slots Q (F0 m 1176 ls []) := by
  have hC2 := hC
  obtain ⟨hx, hb, hml, hown, hts, hlk, hB⟩ := hC2
  refine lv_aload_n hx hb dL_law_1176 rfl (lv_at hl 2 rfl) ?_
  refine zld (hv := []) hC hX hbl hl hI hj hL (k := 1) (by decide) dL_law_1177 dL_law_1178 dL_law_1179 dL_law_1180 dL_law_1181 ?_
  refine zld (hv := []) hC hX hbl hl hI hj hL (k := 2) (by decide) dL_law_1182 dL_law_1183 dL_law_1184 dL_law_1185 dL_law_1186 ?_
  refine zcX (As := [.inl (xs (j + 1)), .inl (xs (j + 2))]) (n := 2) hC kX11_mirrored (by decide) (xt6 (List.mem_of_getElem? (i := 105) rfl) rfl) wiX11_mirrored weX11_mirrored wcX11_mirrored (by decide +kernel) (fun v hv => by simp at hv; rcases hv with rfl | rfl <;> exact ⟨_, rfl⟩) rfl ⟨_, Or.inl rfl⟩ h1 hl.1 hI (Nat.le_of_ble_eq_true rfl) hc1 hs1 dL_law_1187 (fun H1 locs1 hI1 => ?_)
  refine lv_aload_n hx hb dL_law_1190 rfl (lv_at hl 1 rfl) ?_
  refine zld (hv := []) hC hX hbl hl hI1 hj hL (k := 1) (by decide) dL_law_1191 dL_law_1192 dL_law_1193 dL_law_1194 dL_law_1195 ?_
  refine zld (hv := []) hC hX hbl hl hI1 hj hL (k := 2) (by decide) dL_law_1196 dL_law_1197 dL_law_1198 dL_law_1199 dL_law_1200 ?_
  refine zcM (As := [.inl (xs (j + 1)), .inl (xs (j + 2))]) (n := 2) hC kX12_mirrored (by decide) (xt9 (List.mem_of_getElem? (i := 97) rfl) rfl) wiX12_mirrored weX12_mirrored wcX12_mirrored (by decide +kernel) (fun v hv => by simp at hv; rcases hv with rfl | rfl <;> exact ⟨_, rfl⟩) rfl h2 hl.1 hI1 (Nat.le_of_ble_eq_true rfl) hc1 hs1 dL_law_1201 (fun H2 locs2 hI2 => ?_)
  exact lv_icmp_eq hx hb dL_law_1204 (tgt := 1285) (by decide) (fun _ => k H2 locs2 hI2) (fun q => absurd rfl q)
set_option maxHeartbeats 1000000 in
theorem zc31 (hC : zC p s m args meth c D st) {b0 L j : Nat} {xs : Nat → Int32} (hX : va_X b0 L xs s s.heap) (hbl : b0 < s.heap.size) (hl : lv_has ls 4 [(3, .int (nI j)), (2, .ref (zm st s (12, 0))), (1, .ref (zx st s (11, 0))), (0, .ref b0)]) (hj : j + 6 ≤ L) (hL : L ≤ 3072) (hc1 : cells ≤ 600000) (hs1 : slots ≤ 7302250) {MX MX' MM MM' : xM} {r : Int32} (hI : zI D st s MX MM H locs)
    (h1 : fX11_minutes (.inr (.inr (11, 0)) :: [.inl (xs (j + 1)), .inl (xs (j + 2)), .inl (xs (j + 3))]) MX = some (some (.inl r), MX')) (h2 : fX12_minutes (.inr (.inr (12, 0)) :: [.inl (xs (j + 1)), .inl (xs (j + 2)), .inl (xs (j + 3))]) MM = some (some (.inl r), MM'))
    (k : ∀ (H' : Heap) (locs' : List Loc), zI D st s MX' MM' H' locs' → W p l e room_1 s m args below meth c H' locs' cells slots Q (F0 m 1285 ls [])) : W p l e room_1 s m args below meth c H locs cells slots Q (F0 m 1209 ls []) := by
  have hC2 := hC
  obtain ⟨hx, hb, hml, hown, hts, hlk, hB⟩ := hC2
  refine lv_aload_n hx hb dL_law_1209 rfl (lv_at hl 2 rfl) ?_
  refine zld (hv := []) hC hX hbl hl hI hj hL (k := 1) (by decide) dL_law_1210 dL_law_1211 dL_law_1212 dL_law_1213 dL_law_1214 ?_
  refine zld (hv := []) hC hX hbl hl hI hj hL (k := 2) (by decide) dL_law_1215 dL_law_1216 dL_law_1217 dL_law_1218 dL_law_1219 ?_
  refine zld (hv := []) hC hX hbl hl hI hj hL (k := 3) (by decide) dL_law_1220 dL_law_1221 dL_law_1222 dL_law_1223 dL_law_1224 ?_
  refine zcX (As := [.inl (xs (j + 1)), .inl (xs (j + 2)), .inl (xs (j + 3))]) (n := 3) hC kX11_minutes (by decide) (xt6 (List.mem_of_getElem? (i := 121) rfl) rfl) wiX11_minutes weX11_minutes wcX11_minutes (by decide +kernel) (fun v hv => by simp at hv; rcases hv with rfl | rfl | rfl <;> exact ⟨_, rfl⟩) rfl ⟨_, Or.inl rfl⟩ h1 hl.1 hI (Nat.le_of_ble_eq_true rfl) hc1 hs1 dL_law_1225 (fun H1 locs1 hI1 => ?_)
  refine lv_aload_n hx hb dL_law_1228 rfl (lv_at hl 1 rfl) ?_
  refine zld (hv := []) hC hX hbl hl hI1 hj hL (k := 1) (by decide) dL_law_1229 dL_law_1230 dL_law_1231 dL_law_1232 dL_law_1233 ?_
  refine zld (hv := []) hC hX hbl hl hI1 hj hL (k := 2) (by decide) dL_law_1234 dL_law_1235 dL_law_1236 dL_law_1237 dL_law_1238 ?_
  refine zld (hv := []) hC hX hbl hl hI1 hj hL (k := 3) (by decide) dL_law_1239 dL_law_1240 dL_law_1241 dL_law_1242 dL_law_1243 ?_
  refine zcM (As := [.inl (xs (j + 1)), .inl (xs (j + 2)), .inl (xs (j + 3))]) (n := 3) hC kX12_minutes (by decide) (xt9 (List.mem_of_getElem? (i := 101) rfl) rfl) wiX12_minutes weX12_minutes wcX12_minutes (by decide +kernel) (fun v hv => by simp at hv; rcases hv with rfl | rfl | rfl <;> exact ⟨_, rfl⟩) rfl h2 hl.1 hI1 (Nat.le_of_ble_eq_true rfl) hc1 hs1 dL_law_1244 (fun H2 locs2 hI2 => ?_)
  exact lv_icmp_eq hx hb dL_law_1247 (tgt := 1285) (by decide) (fun _ => k H2 locs2 hI2) (fun q => absurd rfl q)
set_option maxHeartbeats 1000000 in
theorem zc32 (hC : zC p s m args meth c D st) {b0 L j : Nat} {xs : Nat → Int32} (hX : va_X b0 L xs s s.heap) (hbl : b0 < s.heap.size) (hl : lv_has ls 4 [(3, .int (nI j)), (2, .ref (zm st s (12, 0))), (1, .ref (zx st s (11, 0))), (0, .ref b0)]) (hj : j + 6 ≤ L) (hL : L ≤ 3072) (hc1 : cells ≤ 600000) (hs1 : slots ≤ 7302250) {MX MX' MM MM' : xM} {r : Int32} (hI : zI D st s MX MM H locs)
    (h1 : fX11_time (.inr (.inr (11, 0)) :: [.inl (xs (j + 1)), .inl (xs (j + 2))]) MX = some (some (.inl r), MX')) (h2 : fX12_time (.inr (.inr (12, 0)) :: [.inl (xs (j + 1)), .inl (xs (j + 2))]) MM = some (some (.inl r), MM'))
    (k : ∀ (H' : Heap) (locs' : List Loc), zI D st s MX' MM' H' locs' → W p l e room_1 s m args below meth c H' locs' cells slots Q (F0 m 1285 ls [])) : W p l e room_1 s m args below meth c H locs cells slots Q (F0 m 1252 ls []) := by
  have hC2 := hC
  obtain ⟨hx, hb, hml, hown, hts, hlk, hB⟩ := hC2
  refine lv_aload_n hx hb dL_law_1252 rfl (lv_at hl 2 rfl) ?_
  refine zld (hv := []) hC hX hbl hl hI hj hL (k := 1) (by decide) dL_law_1253 dL_law_1254 dL_law_1255 dL_law_1256 dL_law_1257 ?_
  refine zld (hv := []) hC hX hbl hl hI hj hL (k := 2) (by decide) dL_law_1258 dL_law_1259 dL_law_1260 dL_law_1261 dL_law_1262 ?_
  refine zcX (As := [.inl (xs (j + 1)), .inl (xs (j + 2))]) (n := 2) hC kX11_time (by decide) (xt6 (List.mem_of_getElem? (i := 133) rfl) rfl) wiX11_time weX11_time wcX11_time (by decide +kernel) (fun v hv => by simp at hv; rcases hv with rfl | rfl <;> exact ⟨_, rfl⟩) rfl ⟨_, Or.inl rfl⟩ h1 hl.1 hI (Nat.le_of_ble_eq_true rfl) hc1 hs1 dL_law_1263 (fun H1 locs1 hI1 => ?_)
  refine lv_aload_n hx hb dL_law_1266 rfl (lv_at hl 1 rfl) ?_
  refine zld (hv := []) hC hX hbl hl hI1 hj hL (k := 1) (by decide) dL_law_1267 dL_law_1268 dL_law_1269 dL_law_1270 dL_law_1271 ?_
  refine zld (hv := []) hC hX hbl hl hI1 hj hL (k := 2) (by decide) dL_law_1272 dL_law_1273 dL_law_1274 dL_law_1275 dL_law_1276 ?_
  refine zcM (As := [.inl (xs (j + 1)), .inl (xs (j + 2))]) (n := 2) hC kX12_time (by decide) (xt9 (List.mem_of_getElem? (i := 113) rfl) rfl) wiX12_time weX12_time wcX12_time (by decide +kernel) (fun v hv => by simp at hv; rcases hv with rfl | rfl <;> exact ⟨_, rfl⟩) rfl h2 hl.1 hI1 (Nat.le_of_ble_eq_true rfl) hc1 hs1 dL_law_1277 (fun H2 locs2 hI2 => ?_)
  exact lv_icmp_eq hx hb dL_law_1280 (tgt := 1285) (by decide) (fun _ => k H2 locs2 hI2) (fun q => absurd rfl q)
end
