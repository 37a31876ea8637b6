/-! The JDK's own, and the class's methods: code, steps, functions -/
/-- the length of a text, a letter of it -/
def fJ0_length_8abf5 : xF := fun a M => match a with
  | [.inr (.inr r)] => cond (Nat.beq r.1 99 && Nat.blt r.2 10) (some (some (.inl (Int32.ofNat (xSl.getD r.2 0))), M)) none
  | _ => none
noncomputable def fJ0_charAt_5068e : xF := fun a M => match a with
  | [.inr (.inr r), .inl i] => cond (Nat.beq r.1 99 && Nat.blt r.2 10 && xin i (xSl.getD r.2 0)) (some (some (.inl ((xSb.getD r.2 []).getD i.toNatClampNeg 0)), M)) none
  | _ => none
/-! Texts: the JDK's own methods that read them -/
def jQ (r : Option Value) : Array Value → State → Outcome → State → Prop := fun _ st o t => o = .returned r ∧ t.heap = st.heap
def jPc (E : xE) (D : xD) (ad : xAd) (av : List Value) : Array Value → State → Prop := fun v U => v = av.toArray ∧ xEn E D ad U
theorem jPc.blind {E : xE} {D : xD} {ad : xAd} {av : List Value} : FrameBlind (jPc E D ad av) := by
  intro a U g mk ⟨h1, h2⟩
  exact ⟨h1, h2.to (U := U.calling g mk a) (Vm.Alike.refl U.vm) (xNw_same rfl) (fun _ _ _ _ h => vk_R.same rfl h) (fun _ _ => rfl)⟩
def jP2 (E : xE) (D : xD) (ad : xAd) (av : List Value) (b N : Nat) (f : Nat → Int32) : Array Value → State → Prop := fun v U => v = av.toArray ∧ xEn E D ad U ∧ va_T .byte b N (fun j => .int (f j)) (xOwn E ad) U U.heap
theorem jP2.blind {E : xE} {D : xD} {ad : xAd} {av : List Value} {b N : Nat} {f : Nat → Int32} : FrameBlind (jP2 E D ad av b N f) := by
  intro a U g mk ⟨h1, h2, h3⟩
  exact ⟨h1, h2.to (U := U.calling g mk a) (Vm.Alike.refl U.vm) (xNw_same rfl) (fun _ _ _ _ h => vk_R.same rfl h) (fun _ _ => rfl), va_T.moved (u := U) (U := U.calling g mk a) (Vm.Alike.refl U.vm) h3⟩
abbrev jC (E : xE) (D : xD) (y : MethodName) (cc : ByteArray) (nL : Nat) (ret : Option FieldType) (d : Nat) (ad : xAd) (av : List Value) (r : Option Value) : Prop := ∀ l : Launch, Met l y (.code y cc nL ret :: xTB) (xrm d) (jPc E D ad av) (jQ r) 0 0 (fun _ => False)
theorem jgo {p : Program} {l : Launch} {e : Env} {R : Room} {s : State} {m : MethodId} {args : Array Value} {below : List Frame} {meth : Method} {c : Code} {Q : State → Prop} {pc : Nat} {ls : Array Slot} {st0 rest : List Value} {H : Heap} {locs : List Loc} {a : Array Value} {r : Option Value}
    (hr : va_Run p l e R s m args below meth c H locs 0 0 0 0 (F0 m pc ls st0) rest (jQ r a) (fun _ => False)) (k : W p l e R s m args below meth c H locs 0 0 Q (F0 m (pc + 3) ls (r.toList ++ rest))) : W p l e R s m args below meth c H locs 0 0 Q (F0 m pc ls st0) := by
  intro T hT X
  obtain ⟨v, st₀, t, T', L', h0, X', hL, e1, e2, ⟨q1, q2⟩, st⟩ := hr T hT X
  have hv : v = r := Outcome.returned.inj q1
  subst hv
  have hL0 : L' = [] := by
    cases L' with
    | nil => rfl
    | cons q L' => exact absurd (hL q List.mem_cons_self) (fun h => h)
  subst hL0
  rw [List.append_nil] at X'
  obtain ⟨t2, a1, b1⟩ := k T' (by rw [e1, q2, h0]) X'
  exact ⟨t2, st t2 a1, b1⟩
theorem j_pre {E : xE} {D : xD} {ad : xAd} {i n : Int32} {w : Value} (hw : w = .null ∨ ∃ a, w = .ref a) (h0 : ¬ i < 0) (h1 : i < n) : jC E D yJ3_checkIndex_8e157 cJ3_checkIndex_8e157 3 (some .int) 0 ad [.int i, .int n, w] (some (.int i)) := by
  intro l
  refine Met.ofW (cc := cJ3_checkIndex_8e157) (maxL := 3) (ret := (some .int)) (by decide) rfl ?_
  intro p e s m args below meth c s₁ Bd hml hv
  obtain ⟨rfl, hEn⟩ := hv
  have hx := Bd.exec
  have hb := Bd.bytes
  have hr := Bd.returns
  have hlk := Bd.notSynchronized
  have hts0 := atoms_spec (ws := .code yJ3_checkIndex_8e157 cJ3_checkIndex_8e157 3 (some .int) :: xTB) Bd.pre
  have hts : ∀ w ∈ xTB, w.before _ s = true := fun w hw => hts0 w (List.mem_cons_of_mem _ hw)
  have hown : s.vm.findClass RJ3 = some m.cls := findClass_of_methodNamed Bd.named
  obtain ⟨adV, hvk, hZ, hZq⟩ := hEn.2.2.2.2.2
  have hS : va_S (xOwn E ad) s.heap s.heap [] := va_S.rf
  have hl := lv_entry ([.int i, .int n, w]) (n := 3) (by rcases hw with rfl | ⟨a, rfl⟩ <;> simp [lg_sl, Value.category])
  rw [lg_entry_eq]
  generalize (lg_sl ([.int i, .int n, w]) ++ List.replicate (3 - (lg_sl ([.int i, .int n, w])).length) Slot.unset).toArray = ls at hl ⊢
  have hl : lv_has ls 3 [(0, .int i), (1, .int n), (2, w)] := hl
  refine lv_iload_n hx hb (show decode cJ3_checkIndex_8e157 0 = .ok (.iload_n 0, 1) by decide +kernel) rfl (lv_at hl 0 rfl) ?_
  refine lv_if_lt hx hb (show decode cJ3_checkIndex_8e157 1 = .ok (.ifCond .lt 8, 3) by decide +kernel) (tgt := 9) (by decide) (fun q => absurd q h0) (fun _ => ?_)
  refine lv_iload_n hx hb (show decode cJ3_checkIndex_8e157 4 = .ok (.iload_n 0, 1) by decide +kernel) rfl (lv_at hl 0 rfl) ?_
  refine lv_iload_n hx hb (show decode cJ3_checkIndex_8e157 5 = .ok (.iload_n 1, 1) by decide +kernel) rfl (lv_at hl 1 rfl) ?_
  refine lv_icmp_lt hx hb (show decode cJ3_checkIndex_8e157 6 = .ok (.if_icmp .lt 10, 3) by decide +kernel) (tgt := 16) (by decide) (fun _ => ?_) (fun q => absurd h1 q)
  refine lv_iload_n hx hb (show decode cJ3_checkIndex_8e157 16 = .ok (.iload_n 0, 1) by decide +kernel) rfl (lv_at hl 0 rfl) ?_
  exact W.iret hx hb hr (fun t ht _ => ⟨rfl, ht⟩) (fun q hq => by cases hq) (show decode cJ3_checkIndex_8e157 17 = .ok (.ireturn, 1) by decide +kernel) hlk
theorem j_cki {E : xE} {D : xD} {ad : xAd} {i n : Int32} (h0 : ¬ i < 0) (h1 : i < n) : jC E D yJ0_checkIndex_df160 cJ0_checkIndex_df160 2 none 1 ad [.int i, .int n] none := by
  intro l
  refine Met.ofW (cc := cJ0_checkIndex_df160) (maxL := 2) (ret := none) (by decide) rfl ?_
  intro p e s m args below meth c s₁ Bd hml hv
  obtain ⟨rfl, hEn⟩ := hv
  have hx := Bd.exec
  have hb := Bd.bytes
  have hr := Bd.returns
  have hlk := Bd.notSynchronized
  have hts0 := atoms_spec (ws := .code yJ0_checkIndex_df160 cJ0_checkIndex_df160 2 none :: xTB) Bd.pre
  have hts : ∀ w ∈ xTB, w.before _ s = true := fun w hw => hts0 w (List.mem_cons_of_mem _ hw)
  have hown : s.vm.findClass RJ0 = some m.cls := findClass_of_methodNamed Bd.named
  obtain ⟨adV, hvk, hZ, hZq⟩ := hEn.2.2.2.2.2
  have hS : va_S (xOwn E ad) s.heap s.heap [] := va_S.rf
  have hl := lv_entry ([.int i, .int n]) (n := 2) (Nat.le_of_ble_eq_true rfl)
  rw [lg_entry_eq]
  generalize (lg_sl ([.int i, .int n]) ++ List.replicate (2 - (lg_sl ([.int i, .int n])).length) Slot.unset).toArray = ls at hl ⊢
  have hl : lv_has ls 2 [(0, .int i), (1, .int n)] := hl
  refine lv_iload_n hx hb (show decode cJ0_checkIndex_df160 0 = .ok (.iload_n 0, 1) by decide +kernel) rfl (lv_at hl 0 rfl) ?_
  refine lv_iload_n hx hb (show decode cJ0_checkIndex_df160 1 = .ok (.iload_n 1, 1) by decide +kernel) rfl (lv_at hl 1 rfl) ?_
  have key : ∀ w : Value, (w = .null ∨ ∃ a, w = .ref a) → W p l e (xrm 1) s m ([.int i, .int n] : List Value).toArray below meth c s.heap [] 0 0 (MQ below (jQ none) ([.int i, .int n] : List Value).toArray s 0 0 fun _ => False) (F0 m 5 ls [w, .int n, .int i]) := by
    intro w hw
    refine jgo (va_runS (As := [.int i, .int n, w]) (rest := []) (n := 3) ⟨hx, hb, hml, hown, hts⟩ (j_pre hw h0 h1 l) (va_cwS 3 hts (xgood (fun w hw2 => ?_)) rfl rfl rfl (by decide +kernel) ⟨by decide, by decide⟩) ⟨jPc.blind, fun U hU hWm => ⟨rfl, hEn.warm hWm (fun q _ => by rw [hU])⟩⟩ rfl rfl hl.1 rfl (lv_room (Nat.le_of_ble_eq_true rfl)) (show decode cJ0_checkIndex_df160 5 = .ok (.invokestatic 1059, 3) by decide +kernel) ⟨Nat.le_refl _, Nat.le_refl _⟩) ?_
    · unfold va_wsS at hw2
      simp only [List.cons_append, List.nil_append, List.mem_cons] at hw2
      rcases hw2 with rfl | rfl | rfl | rfl | hw2
      · exact (xt3 (List.mem_of_getElem? (i := 66) rfl) rfl)
      · exact (xt3 (List.mem_of_getElem? (i := 67) rfl) rfl)
      · exact (xt1 (List.mem_of_getElem? (i := 17) rfl) rfl)
      · exact (xt3 (List.mem_of_getElem? (i := 68) rfl) rfl)
      · exact hw2
    refine lv_pop hx hb (show decode cJ0_checkIndex_df160 8 = .ok (.pop, 1) by decide +kernel) rfl ?_
    exact W.vret hx hb hr (fun t ht _ => ⟨rfl, ht⟩) (fun q hq => by cases hq) (show decode cJ0_checkIndex_df160 9 = .ok (.return_, 1) by decide +kernel) hlk
  rcases hZq with hZ2 | ⟨t2, hZ2⟩
  · exact va_gets hx hb hZ2 hS hown (hts _ (xt3 (List.mem_of_getElem? (i := 64) rfl) rfl)) (fun _ h => h) (show decode cJ0_checkIndex_df160 2 = .ok (.getstatic 1053, 3) by decide +kernel) (key _ (Or.inl rfl))
  · exact va_gets hx hb hZ2 hS hown (hts _ (xt3 (List.mem_of_getElem? (i := 64) rfl) rfl)) (fun _ h => h) (show decode cJ0_checkIndex_df160 2 = .ok (.getstatic 1053, 3) by decide +kernel) (key _ (Or.inr ⟨_, rfl⟩))
theorem j_cod {E : xE} {D : xD} {ad : xAd} {k : Nat} (hk : k < 10) : jC E D yJ0_coder_7d493 cJ0_coder_7d493 1 (some .byte) 0 ad [.ref (ad (99, k))] (some (.int 0)) := by
  intro l
  refine Met.ofW (cc := cJ0_coder_7d493) (maxL := 1) (ret := (some .byte)) (by decide) rfl ?_
  intro p e s m args below meth c s₁ Bd hml hv
  obtain ⟨rfl, hEn⟩ := hv
  have hx := Bd.exec
  have hb := Bd.bytes
  have hr := Bd.returns
  have hlk := Bd.notSynchronized
  have hts0 := atoms_spec (ws := .code yJ0_coder_7d493 cJ0_coder_7d493 1 (some .byte) :: xTB) Bd.pre
  have hts : ∀ w ∈ xTB, w.before _ s = true := fun w hw => hts0 w (List.mem_cons_of_mem _ hw)
  have hown : s.vm.findClass RJ0 = some m.cls := findClass_of_methodNamed Bd.named
  obtain ⟨adV, hvk, hZ, hZq⟩ := hEn.2.2.2.2.2
  have hS : va_S (xOwn E ad) s.heap s.heap [] := va_S.rf
  have hl := lv_entry ([.ref (ad (99, k))]) (n := 1) (Nat.le_of_ble_eq_true rfl)
  rw [lg_entry_eq]
  generalize (lg_sl ([.ref (ad (99, k))]) ++ List.replicate (1 - (lg_sl ([.ref (ad (99, k))])).length) Slot.unset).toArray = ls at hl ⊢
  have hl : lv_has ls 1 [(0, .ref (ad (99, k)))] := hl
  obtain ⟨hO, hc0, hv0, hT⟩ := hvk.1 k hk
  refine va_gets hx hb hZ hS hown (hts _ (xt3 (List.mem_of_getElem? (i := 48) rfl) rfl)) (fun _ h => h) (show decode cJ0_coder_7d493 0 = .ok (.getstatic 38, 3) by decide +kernel) ?_
  refine lv_if_eq hx hb (show decode cJ0_coder_7d493 3 = .ok (.ifCond .eq 10, 3) by decide +kernel) (tgt := 13) (by decide) (fun q => absurd q (by decide)) (fun _ => ?_)
  refine lv_aload_n hx hb (show decode cJ0_coder_7d493 6 = .ok (.aload_n 0, 1) by decide +kernel) rfl (lv_at hl 0 rfl) ?_
  refine vk_getf hx hb hc0 hS hown (hts _ (xt9 (List.mem_of_getElem? (i := 122) rfl) rfl)) (fun _ h => h) (show decode cJ0_coder_7d493 7 = .ok (.getfield 15, 3) by decide +kernel) ?_
  refine lv_goto hx hb (show decode cJ0_coder_7d493 10 = .ok (.goto 4, 3) by decide +kernel) (tgt := 14) (by decide) ?_
  exact W.zret hx hb hr rfl (fun t ht _ => ⟨rfl, ht⟩) (fun q hq => by cases hq) (show decode cJ0_coder_7d493 14 = .ok (.ireturn, 1) by decide +kernel) hlk
theorem j_lat {E : xE} {D : xD} {ad : xAd} {k : Nat} (hk : k < 10) : jC E D yJ0_isLatin1_aae02 cJ0_isLatin1_aae02 1 (some .boolean) 0 ad [.ref (ad (99, k))] (some (.int 1)) := by
  intro l
  refine Met.ofW (cc := cJ0_isLatin1_aae02) (maxL := 1) (ret := (some .boolean)) (by decide) rfl ?_
  intro p e s m args below meth c s₁ Bd hml hv
  obtain ⟨rfl, hEn⟩ := hv
  have hx := Bd.exec
  have hb := Bd.bytes
  have hr := Bd.returns
  have hlk := Bd.notSynchronized
  have hts0 := atoms_spec (ws := .code yJ0_isLatin1_aae02 cJ0_isLatin1_aae02 1 (some .boolean) :: xTB) Bd.pre
  have hts : ∀ w ∈ xTB, w.before _ s = true := fun w hw => hts0 w (List.mem_cons_of_mem _ hw)
  have hown : s.vm.findClass RJ0 = some m.cls := findClass_of_methodNamed Bd.named
  obtain ⟨adV, hvk, hZ, hZq⟩ := hEn.2.2.2.2.2
  have hS : va_S (xOwn E ad) s.heap s.heap [] := va_S.rf
  have hl := lv_entry ([.ref (ad (99, k))]) (n := 1) (Nat.le_of_ble_eq_true rfl)
  rw [lg_entry_eq]
  generalize (lg_sl ([.ref (ad (99, k))]) ++ List.replicate (1 - (lg_sl ([.ref (ad (99, k))])).length) Slot.unset).toArray = ls at hl ⊢
  have hl : lv_has ls 1 [(0, .ref (ad (99, k)))] := hl
  obtain ⟨hO, hc0, hv0, hT⟩ := hvk.1 k hk
  refine va_gets hx hb hZ hS hown (hts _ (xt3 (List.mem_of_getElem? (i := 48) rfl) rfl)) (fun _ h => h) (show decode cJ0_isLatin1_aae02 0 = .ok (.getstatic 38, 3) by decide +kernel) ?_
  refine lv_if_eq hx hb (show decode cJ0_isLatin1_aae02 3 = .ok (.ifCond .eq 14, 3) by decide +kernel) (tgt := 17) (by decide) (fun q => absurd q (by decide)) (fun _ => ?_)
  refine lv_aload_n hx hb (show decode cJ0_isLatin1_aae02 6 = .ok (.aload_n 0, 1) by decide +kernel) rfl (lv_at hl 0 rfl) ?_
  refine vk_getf hx hb hc0 hS hown (hts _ (xt9 (List.mem_of_getElem? (i := 122) rfl) rfl)) (fun _ h => h) (show decode cJ0_isLatin1_aae02 7 = .ok (.getfield 15, 3) by decide +kernel) ?_
  refine lv_if_ne hx hb (show decode cJ0_isLatin1_aae02 10 = .ok (.ifCond .ne 7, 3) by decide +kernel) (tgt := 17) (by decide) (fun q => absurd rfl q) (fun _ => ?_)
  refine lv_iconst (v := 1) hx hb (show decode cJ0_isLatin1_aae02 13 = .ok (.iconst 1, 1) by decide +kernel) (by decide) ?_
  refine lv_goto hx hb (show decode cJ0_isLatin1_aae02 14 = .ok (.goto 4, 3) by decide +kernel) (tgt := 18) (by decide) ?_
  exact W.zret hx hb hr rfl (fun t ht _ => ⟨rfl, ht⟩) (fun q hq => by cases hq) (show decode cJ0_isLatin1_aae02 18 = .ok (.ireturn, 1) by decide +kernel) hlk
theorem j_len {E : xE} {D : xD} {ad : xAd} {k : Nat} (hk : k < 10) : jC E D yJ0_length_8abf5 cJ0_length_8abf5 1 (some .int) 1 ad [.ref (ad (99, k))] (some (.int (Int32.ofNat (xSl.getD k 0)))) := by
  intro l
  refine Met.ofW (cc := cJ0_length_8abf5) (maxL := 1) (ret := (some .int)) (by decide) rfl ?_
  intro p e s m args below meth c s₁ Bd hml hv
  obtain ⟨rfl, hEn⟩ := hv
  have hx := Bd.exec
  have hb := Bd.bytes
  have hr := Bd.returns
  have hlk := Bd.notSynchronized
  have hts0 := atoms_spec (ws := .code yJ0_length_8abf5 cJ0_length_8abf5 1 (some .int) :: xTB) Bd.pre
  have hts : ∀ w ∈ xTB, w.before _ s = true := fun w hw => hts0 w (List.mem_cons_of_mem _ hw)
  have hown : s.vm.findClass RJ0 = some m.cls := findClass_of_methodNamed Bd.named
  obtain ⟨adV, hvk, hZ, hZq⟩ := hEn.2.2.2.2.2
  have hS : va_S (xOwn E ad) s.heap s.heap [] := va_S.rf
  have hl := lv_entry ([.ref (ad (99, k))]) (n := 1) (Nat.le_of_ble_eq_true rfl)
  rw [lg_entry_eq]
  generalize (lg_sl ([.ref (ad (99, k))]) ++ List.replicate (1 - (lg_sl ([.ref (ad (99, k))])).length) Slot.unset).toArray = ls at hl ⊢
  have hl : lv_has ls 1 [(0, .ref (ad (99, k)))] := hl
  obtain ⟨hO, hc0, hv0, hT⟩ := hvk.1 k hk
  refine lv_aload_n hx hb (show decode cJ0_length_8abf5 0 = .ok (.aload_n 0, 1) by decide +kernel) rfl (lv_at hl 0 rfl) ?_
  refine vk_getf hx hb hv0 hS hown (hts _ (xt9 (List.mem_of_getElem? (i := 121) rfl) rfl)) (fun _ h => h) (show decode cJ0_length_8abf5 1 = .ok (.getfield 9, 3) by decide +kernel) ?_
  refine va_tlen hx hb hT hS rfl (show decode cJ0_length_8abf5 4 = .ok (.arraylength, 1) by decide +kernel) ?_
  refine lv_aload_n hx hb (show decode cJ0_length_8abf5 5 = .ok (.aload_n 0, 1) by decide +kernel) rfl (lv_at hl 0 rfl) ?_
  refine jgo (va_runV (C := RJ0) (b := ad (99, k)) (As := []) (rest := [.int (Int32.ofNat (xSl.getD k 0))]) (n := 0) ⟨hx, hb, hml, hown, hts⟩ (j_cod hk l) (cwV 0 hts (xgood (fun w hw2 => ?_)) rfl rfl rfl (by decide +kernel) ⟨by decide, by decide⟩) ⟨jPc.blind, vk_recv hvk hk hS, fun U hU hWm => ⟨rfl, hEn.warm hWm (fun q _ => by rw [hU])⟩⟩ rfl rfl hl.1 rfl (lv_room (Nat.le_of_ble_eq_true rfl)) (show decode cJ0_length_8abf5 6 = .ok (.invokevirtual 335, 3) by decide +kernel) ⟨Nat.le_refl _, Nat.le_refl _⟩) ?_
  · unfold wsV at hw2
    simp only [List.cons_append, List.nil_append, List.mem_cons] at hw2
    rcases hw2 with rfl | rfl | rfl | rfl | rfl | hw2
    · exact (xt3 (List.mem_of_getElem? (i := 44) rfl) rfl)
    · exact (xt3 (List.mem_of_getElem? (i := 45) rfl) rfl)
    · exact (xt3 (List.mem_of_getElem? (i := 46) rfl) rfl)
    · exact (xt1 (List.mem_of_getElem? (i := 15) rfl) rfl)
    · exact (xt3 (List.mem_of_getElem? (i := 47) rfl) rfl)
    · exact hw2
  refine lv_ishr hx hb (show decode cJ0_length_8abf5 9 = .ok (.ishr, 1) by decide +kernel) ?_
  have e0 : Int32.ofNat (xSl.getD k 0) >>> ((0 : Int32) &&& 31) = Int32.ofNat (xSl.getD k 0) := (show ∀ k, k < 10 → Int32.ofNat (xSl.getD k 0) >>> ((0 : Int32) &&& 31) = Int32.ofNat (xSl.getD k 0) by decide +kernel) k hk
  rw [e0]
  exact W.iret hx hb hr (fun t ht _ => ⟨rfl, ht⟩) (fun q hq => by cases hq) (show decode cJ0_length_8abf5 10 = .ok (.ireturn, 1) by decide +kernel) hlk
theorem j_l1c {E : xE} {D : xD} {ad : xAd} {av N : Nat} {f : Nat → Int32} {i : Int32} (h0 : ¬ i < 0) (h1 : i < Int32.ofNat N) (h2 : i.toNatClampNeg < N) : ∀ l : Launch, Met l yJ1_charAt_3b067 (.code yJ1_charAt_3b067 cJ1_charAt_3b067 2 (some .char) :: xTB) (xrm 2) (jP2 E D ad [.ref av, .int i] av N f) (jQ (some (.int ((f i.toNatClampNeg &&& 255).toUInt32 % 65536).toInt32))) 0 0 (fun _ => False) := by
  intro l
  refine Met.ofW (cc := cJ1_charAt_3b067) (maxL := 2) (ret := (some .char)) (by decide) rfl ?_
  intro p e s m args below meth c s₁ Bd hml hv
  obtain ⟨rfl, hEn, hT⟩ := hv
  have hx := Bd.exec
  have hb := Bd.bytes
  have hr := Bd.returns
  have hlk := Bd.notSynchronized
  have hts0 := atoms_spec (ws := .code yJ1_charAt_3b067 cJ1_charAt_3b067 2 (some .char) :: xTB) Bd.pre
  have hts : ∀ w ∈ xTB, w.before _ s = true := fun w hw => hts0 w (List.mem_cons_of_mem _ hw)
  have hown : s.vm.findClass RJ1 = some m.cls := findClass_of_methodNamed Bd.named
  obtain ⟨adV, hvk, hZ, hZq⟩ := hEn.2.2.2.2.2
  have hS : va_S (xOwn E ad) s.heap s.heap [] := va_S.rf
  have hl := lv_entry ([.ref av, .int i]) (n := 2) (Nat.le_of_ble_eq_true rfl)
  rw [lg_entry_eq]
  generalize (lg_sl ([.ref av, .int i]) ++ List.replicate (2 - (lg_sl ([.ref av, .int i])).length) Slot.unset).toArray = ls at hl ⊢
  have hl : lv_has ls 2 [(0, .ref av), (1, .int i)] := hl
  refine lv_iload_n hx hb (show decode cJ1_charAt_3b067 0 = .ok (.iload_n 1, 1) by decide +kernel) rfl (lv_at hl 1 rfl) ?_
  refine lv_aload_n hx hb (show decode cJ1_charAt_3b067 1 = .ok (.aload_n 0, 1) by decide +kernel) rfl (lv_at hl 0 rfl) ?_
  refine va_tlen hx hb hT hS rfl (show decode cJ1_charAt_3b067 2 = .ok (.arraylength, 1) by decide +kernel) ?_
  refine jgo (va_runS (As := [.int i, .int (Int32.ofNat N)]) (rest := []) (n := 2) ⟨hx, hb, hml, hown, hts⟩ (j_cki h0 h1 l) (va_cwS 2 hts (xgood (fun w hw2 => ?_)) rfl rfl rfl (by decide +kernel) ⟨by decide, by decide⟩) ⟨jPc.blind, fun U hU hWm => ⟨rfl, hEn.warm hWm (fun q _ => by rw [hU])⟩⟩ rfl rfl hl.1 rfl (lv_room (Nat.le_of_ble_eq_true rfl)) (show decode cJ1_charAt_3b067 3 = .ok (.invokestatic 9, 3) by decide +kernel) ⟨Nat.le_refl _, Nat.le_refl _⟩) ?_
  · unfold va_wsS at hw2
    simp only [List.cons_append, List.nil_append, List.mem_cons] at hw2
    rcases hw2 with rfl | rfl | rfl | rfl | hw2
    · exact (xt3 (List.mem_of_getElem? (i := 61) rfl) rfl)
    · exact (xt3 (List.mem_of_getElem? (i := 62) rfl) rfl)
    · exact (xt1 (List.mem_of_getElem? (i := 15) rfl) rfl)
    · exact (xt3 (List.mem_of_getElem? (i := 63) rfl) rfl)
    · exact hw2
  refine lv_aload_n hx hb (show decode cJ1_charAt_3b067 6 = .ok (.aload_n 0, 1) by decide +kernel) rfl (lv_at hl 0 rfl) ?_
  refine lv_iload_n hx hb (show decode cJ1_charAt_3b067 7 = .ok (.iload_n 1, 1) by decide +kernel) rfl (lv_at hl 1 rfl) ?_
  refine va_tb hx hb hT hS (show vp_in i N from fun q => q.elim h0 (fun z => by omega)) rfl (show decode cJ1_charAt_3b067 8 = .ok (.baload, 1) by decide +kernel) ?_
  refine lv_sipush (v := 255) hx hb (show decode cJ1_charAt_3b067 9 = .ok (.sipush 255, 3) by decide +kernel) (by decide) ?_
  refine lv_iand hx hb (show decode cJ1_charAt_3b067 12 = .ok (.iand, 1) by decide +kernel) ?_
  refine lv_i2c hx hb (show decode cJ1_charAt_3b067 13 = .ok (.i2c, 1) by decide +kernel) rfl ?_
  exact W.zret hx hb hr (pk_nc _) (fun t ht _ => ⟨rfl, ht⟩) (fun q hq => by cases hq) (show decode cJ1_charAt_3b067 14 = .ok (.ireturn, 1) by decide +kernel) hlk
theorem j_asc : ∀ k, k < 10 → ∀ j, j < xSl.getD k 0 → ((((xSb.getD k []).getD j 0) &&& 255).toUInt32 % 65536).toInt32 = (xSb.getD k []).getD j 0 ∧ narrow .char (.int ((xSb.getD k []).getD j 0)) = .int ((xSb.getD k []).getD j 0) := by decide +kernel
theorem j_lt : ∀ k, k < 10 → xSl.getD k 0 < 10 := by decide +kernel
theorem j_chr {E : xE} {D : xD} {ad : xAd} {k : Nat} {i : Int32} (hk : k < 10) (h0 : ¬ i < 0) (h1 : i.toNatClampNeg < xSl.getD k 0) : jC E D yJ0_charAt_5068e cJ0_charAt_5068e 2 (some .char) 3 ad [.ref (ad (99, k)), .int i] (some (.int ((xSb.getD k []).getD i.toNatClampNeg 0))) := by
  intro l
  refine Met.ofW (cc := cJ0_charAt_5068e) (maxL := 2) (ret := (some .char)) (by decide) rfl ?_
  intro p e s m args below meth c s₁ Bd hml hv
  obtain ⟨rfl, hEn⟩ := hv
  have hx := Bd.exec
  have hb := Bd.bytes
  have hr := Bd.returns
  have hlk := Bd.notSynchronized
  have hts0 := atoms_spec (ws := .code yJ0_charAt_5068e cJ0_charAt_5068e 2 (some .char) :: xTB) Bd.pre
  have hts : ∀ w ∈ xTB, w.before _ s = true := fun w hw => hts0 w (List.mem_cons_of_mem _ hw)
  have hown : s.vm.findClass RJ0 = some m.cls := findClass_of_methodNamed Bd.named
  obtain ⟨adV, hvk, hZ, hZq⟩ := hEn.2.2.2.2.2
  have hS : va_S (xOwn E ad) s.heap s.heap [] := va_S.rf
  have hl := lv_entry ([.ref (ad (99, k)), .int i]) (n := 2) (Nat.le_of_ble_eq_true rfl)
  rw [lg_entry_eq]
  generalize (lg_sl ([.ref (ad (99, k)), .int i]) ++ List.replicate (2 - (lg_sl ([.ref (ad (99, k)), .int i])).length) Slot.unset).toArray = ls at hl ⊢
  have hl : lv_has ls 2 [(0, .ref (ad (99, k))), (1, .int i)] := hl
  obtain ⟨hO, hc0, hv0, hT⟩ := hvk.1 k hk
  obtain ⟨a1, a2⟩ := j_asc k hk _ h1
  have hi2 : i < Int32.ofNat (xSl.getD k 0) := by
    obtain ⟨j, j1, rfl⟩ := nI_of h0
    rw [nI_clamp j1] at h1
    exact nI_lt h1 (by have := j_lt k hk; omega)
  refine lv_aload_n hx hb (show decode cJ0_charAt_5068e 0 = .ok (.aload_n 0, 1) by decide +kernel) rfl (lv_at hl 0 rfl) ?_
  refine jgo (va_runV (C := RJ0) (b := ad (99, k)) (As := []) (rest := []) (n := 0) ⟨hx, hb, hml, hown, hts⟩ (j_lat hk l) (cwV 0 hts (xgood (fun w hw2 => ?_)) rfl rfl rfl (by decide +kernel) ⟨by decide, by decide⟩) ⟨jPc.blind, vk_recv hvk hk hS, fun U hU hWm => ⟨rfl, hEn.warm hWm (fun q _ => by rw [hU])⟩⟩ rfl rfl hl.1 rfl (lv_room (Nat.le_of_ble_eq_true rfl)) (show decode cJ0_charAt_5068e 1 = .ok (.invokevirtual 492, 3) by decide +kernel) ⟨Nat.le_refl _, Nat.le_refl _⟩) ?_
  · unfold wsV at hw2
    simp only [List.cons_append, List.nil_append, List.mem_cons] at hw2
    rcases hw2 with rfl | rfl | rfl | rfl | rfl | hw2
    · exact (xt3 (List.mem_of_getElem? (i := 54) rfl) rfl)
    · exact (xt3 (List.mem_of_getElem? (i := 55) rfl) rfl)
    · exact (xt3 (List.mem_of_getElem? (i := 56) rfl) rfl)
    · exact (xt1 (List.mem_of_getElem? (i := 15) rfl) rfl)
    · exact (xt3 (List.mem_of_getElem? (i := 57) rfl) rfl)
    · exact hw2
  refine lv_if_eq hx hb (show decode cJ0_charAt_5068e 4 = .ok (.ifCond .eq 12, 3) by decide +kernel) (tgt := 16) (by decide) (fun q => absurd q (by decide)) (fun _ => ?_)
  refine lv_aload_n hx hb (show decode cJ0_charAt_5068e 7 = .ok (.aload_n 0, 1) by decide +kernel) rfl (lv_at hl 0 rfl) ?_
  refine vk_getf hx hb hv0 hS hown (hts _ (xt9 (List.mem_of_getElem? (i := 121) rfl) rfl)) (fun _ h => h) (show decode cJ0_charAt_5068e 8 = .ok (.getfield 9, 3) by decide +kernel) ?_
  refine lv_iload_n hx hb (show decode cJ0_charAt_5068e 11 = .ok (.iload_n 1, 1) by decide +kernel) rfl (lv_at hl 1 rfl) ?_
  refine jgo (va_runS (As := [.ref (adV k), .int i]) (rest := []) (n := 2) ⟨hx, hb, hml, hown, hts⟩ (j_l1c (E := E) (D := D) (ad := ad) (av := adV k) (f := fun j => (xSb.getD k []).getD j 0) (N := xSl.getD k 0) h0 hi2 h1 l) (va_cwS 2 hts (xgood (fun w hw2 => ?_)) rfl rfl rfl (by decide +kernel) ⟨by decide, by decide⟩) ⟨?_, fun U hU hWm => ?_⟩ rfl rfl hl.1 rfl (lv_room (Nat.le_of_ble_eq_true rfl)) (show decode cJ0_charAt_5068e 12 = .ok (.invokestatic 495, 3) by decide +kernel) ⟨Nat.le_refl _, Nat.le_refl _⟩) ?_
  · unfold va_wsS at hw2
    simp only [List.cons_append, List.nil_append, List.mem_cons] at hw2
    rcases hw2 with rfl | rfl | rfl | rfl | hw2
    · exact (xt3 (List.mem_of_getElem? (i := 58) rfl) rfl)
    · exact (xt3 (List.mem_of_getElem? (i := 59) rfl) rfl)
    · exact (xt1 (List.mem_of_getElem? (i := 16) rfl) rfl)
    · exact (xt3 (List.mem_of_getElem? (i := 60) rfl) rfl)
    · exact hw2
  · exact jP2.blind
  · exact ⟨rfl, hEn.warm hWm (fun q _ => by rw [hU]), by rw [hU]; exact va_T.moved hWm.alike hT⟩
  show W p l e (xrm 3) s m _ below meth c s.heap [] 0 0 _ (F0 m 15 ls [.int ((((xSb.getD k []).getD i.toNatClampNeg 0) &&& 255).toUInt32 % 65536).toInt32])
  rw [a1]
  exact W.zret hx hb hr a2 (fun t ht _ => ⟨rfl, ht⟩) (fun q hq => by cases hq) (show decode cJ0_charAt_5068e 15 = .ok (.ireturn, 1) by decide +kernel) hlk
/-- calls of the two from the worlds -/
theorem xco_T {E : xE} {D : xD} {own : String} {d d2 idx n rk nL2 : Nat} {y : MethodName} {cc2 : ByteArray} {ret2 : Option FieldType} {f : xF} (hM : ∀ (l : Launch) (ad : xAd) (As : List xV) (M M' : xM) (r : Option xV), f As M = some (r, M') → M' = M ∧ Met l y (.code y cc2 nL2 ret2 :: xTB) (xrm d2) (jPc E D ad (As.map (xc ad))) (jQ (r.map (xc ad))) 0 0 (fun _ => False)) (hf : ∀ k As M R, f (.inr (.inr (99, k)) :: As) M = some R → k < 10) (hd : d2 + 1 ≤ d ∧ nL2 ≤ 40)
    (h1 : Cond.methodLink own idx y ∈ xTB) (h2 : Cond.instanceMethod y ∈ xTB) (h3 : Cond.selects RJ0 y y ∈ xTB) (h4 : Cond.initialized RJ0 ∈ xTB) (h5 : Cond.code y cc2 nL2 ret2 ∈ xTB) (hy : y.cls = RJ0 ∧ y.cls ≠ "java/lang/invoke/MethodHandle" ∧ y.cls ≠ "java/lang/invoke/VarHandle" ∧ (parseMethodDescriptor y.desc).map (fun d => d.parameters.length) = some n) : xco E D own d (idx, false, 99, n + 1, rk, f) := by
  intro p l e s m args below meth c cc nL Q ad pc L S As M M' r hC hdg hf2 hn hcat hrc hro hw H locs ls hW hF hl hS
  obtain ⟨k, As', rfl⟩ := xrc_inv hrc
  have hk := hf _ _ _ _ hf2
  obtain ⟨rfl, hMet⟩ := hM l ad _ _ _ _ hf2
  have hC2 := hC
  obtain ⟨hx, hb, hml, hown, hts, hlk, hEn⟩ := hC2
  obtain ⟨adV, hvk, hZ, hZq⟩ := hEn.2.2.2.2.2
  obtain ⟨cell, c1, c2, c3⟩ : ∃ cell : Cell, H[ad (99, k)]? = some cell ∧ cell.vm.isStatics = false ∧ s.vm.findClass "java/lang/String" = some cell.cls := by
    obtain ⟨cell, g1, g2, g3, -⟩ := (hvk.1 k hk).1.kept (fun a _ ha => hF.2.1 a ha)
    exact ⟨cell, g1, g2, g3⟩
  have hst : ((.inr (.inr (99, k)) :: As' : List xV).reverse ++ S).map (xc ad) = (As'.map (xc ad)).reverse ++ .ref (ad (99, k)) :: S.map (xc ad) := by simp [xc]
  rw [hst]
  have hrun := va_runV (l := l) (e := e) (R := xrm d) (below := below) (meth := meth) (locs := locs) (cells := 0) (slots := 0) (H := H) (As := As'.map (xc ad)) (rest := S.map (xc ad)) (b := ad (99, k)) (C := RJ0) (n := n) (g := F0 m pc ls ((As'.map (xc ad)).reverse ++ .ref (ad (99, k)) :: S.map (xc ad))) ⟨hx, hb, hml, hown, hts⟩ hMet
    (cwV n hts (xgood (fun w hw2 => by
      unfold wsV at hw2
      simp only [List.cons_append, List.nil_append, List.mem_cons] at hw2
      rcases hw2 with rfl | rfl | rfl | rfl | rfl | hw2
      · exact h1
      · exact h2
      · exact h3
      · exact h4
      · exact h5
      · exact hw2)) rfl rfl rfl hy ⟨hd.1, by show 8 + (nL2 + 11) + 60 * d2 ≤ 60 * d; omega⟩)
    ⟨jPc.blind, ⟨cell, c1, c2, c3⟩, fun U hU hWm => ⟨by simp [xc], hEn.at hF hU hWm⟩⟩
    rfl (by simpa using hn) hl.2.1 rfl (lv_room (by rw [xcats_sum]; exact hcat)) hdg ⟨Nat.le_refl _, Nat.le_refl _⟩
  refine jgo hrun ?_
  have : (r.map (xc ad)).toList ++ S.map (xc ad) = (r.toList ++ S).map (xc ad) := by cases r <;> simp
  rw [this]
  refine hw H locs ls hW hF hl (fun v hv => ?_)
  rcases List.mem_append.mp hv with h | h
  · exact hro v (by simpa using h)
  · exact hS v (List.mem_append_right _ h)
theorem xlen_inv {As : List xV} {M M' : xM} {r : Option xV} (h : fJ0_length_8abf5 As M = some (r, M')) : ∃ k, As = [.inr (.inr (99, k))] ∧ k < 10 ∧ r = some (.inl (Int32.ofNat (xSl.getD k 0))) ∧ M' = M := by
  unfold fJ0_length_8abf5 at h
  split at h
  · rename_i q
    obtain ⟨t, k⟩ := q
    cases hc : (Nat.beq t 99 && Nat.blt k 10) with
    | false => simp only [hc] at h; cases h
    | true =>
      simp only [hc] at h
      rw [Bool.and_eq_true] at hc
      have h1 := Nat.eq_of_beq_eq_true hc.1
      subst h1
      cases h
      exact ⟨k, rfl, Nat.blt_eq.mp hc.2, rfl, rfl⟩
  · cases h
theorem xchr_inv {As : List xV} {M M' : xM} {r : Option xV} (h : fJ0_charAt_5068e As M = some (r, M')) : ∃ k i, As = [.inr (.inr (99, k)), .inl i] ∧ k < 10 ∧ ¬ i < 0 ∧ i.toNatClampNeg < xSl.getD k 0 ∧ r = some (.inl ((xSb.getD k []).getD i.toNatClampNeg 0)) ∧ M' = M := by
  unfold fJ0_charAt_5068e at h
  split at h
  · rename_i q i
    obtain ⟨t, k⟩ := q
    cases hc : (Nat.beq t 99 && Nat.blt k 10 && xin i (xSl.getD k 0)) with
    | false => simp only [hc] at h; cases h
    | true =>
      simp only [hc] at h
      rw [Bool.and_eq_true, Bool.and_eq_true] at hc
      have h1 := Nat.eq_of_beq_eq_true hc.1.1
      subst h1
      cases h
      exact ⟨k, i, rfl, Nat.blt_eq.mp hc.1.2, (xin_iff.mp hc.2).1, (xin_iff.mp hc.2).2, rfl, rfl⟩
  · cases h
theorem xco_len {E : xE} {D : xD} {own : String} {d idx : Nat} (hd : 2 ≤ d) (h1 : Cond.methodLink own idx yJ0_length_8abf5 ∈ xTB) : xco E D own d (idx, false, 99, 1, 1, fJ0_length_8abf5) := by
  refine xco_T (n := 0) (fun l ad As M M' r h => ?_) (fun k As M R h => ?_) ⟨hd, by decide⟩ h1 (xt3 (List.mem_of_getElem? (i := 41) rfl) rfl) (xt3 (List.mem_of_getElem? (i := 42) rfl) rfl) (xt1 (List.mem_of_getElem? (i := 15) rfl) rfl) (xt3 (List.mem_of_getElem? (i := 43) rfl) rfl) (by decide +kernel)
  · obtain ⟨k, rfl, hk, rfl, rfl⟩ := xlen_inv h
    exact ⟨rfl, j_len hk l⟩
  · obtain ⟨r, M'⟩ := R
    obtain ⟨k', e, hk, -⟩ := xlen_inv h
    cases e
    exact hk
theorem xco_chr {E : xE} {D : xD} {own : String} {d idx : Nat} (hd : 4 ≤ d) (h1 : Cond.methodLink own idx yJ0_charAt_5068e ∈ xTB) : xco E D own d (idx, false, 99, 2, 1, fJ0_charAt_5068e) := by
  refine xco_T (n := 1) (fun l ad As M M' r h => ?_) (fun k As M R h => ?_) ⟨hd, by decide⟩ h1 (xt3 (List.mem_of_getElem? (i := 51) rfl) rfl) (xt3 (List.mem_of_getElem? (i := 52) rfl) rfl) (xt1 (List.mem_of_getElem? (i := 15) rfl) rfl) (xt3 (List.mem_of_getElem? (i := 53) rfl) rfl) (by decide +kernel)
  · obtain ⟨k, i, rfl, hk, h2, h3, rfl, rfl⟩ := xchr_inv h
    exact ⟨rfl, j_chr hk h2 h3 l⟩
  · obtain ⟨r, M'⟩ := R
    obtain ⟨k', i, e, hk, -⟩ := xchr_inv h
    cases e
    exact hk
/-! Math -/
def fJ9_max_7cf53 : xF := fun a M => match a with
  | [.inl x, .inl y] => some (some (.inl (if x < y then y else x)), M)
  | _ => none
def fJ9_min_7cf53 : xF := fun a M => match a with
  | [.inl x, .inl y] => some (some (.inl (if y < x then y else x)), M)
  | _ => none
def fJ9_abs_0f7a4 : xF := fun a M => match a with
  | [.inl x] => some (some (.inl (if 0 ≤ x then x else 0 - x)), M)
  | _ => none
theorem xco_max {E : xE} {D : xD} {own : String} {d idx : Nat} (hd : 1 ≤ d) (h1 : Cond.methodLink own idx Lib.Math.max.name ∈ xTB) : xco E D own d (idx, true, 0, 2, 1, fJ9_max_7cf53) := by
  intro p l e s m args below meth c cc nL Q ad pc L S As M M' r hC hdg hf2 hn hcat hrc hro hw H locs ls hW hF hl hS
  obtain ⟨hx, hb, hml, hown, hts, hlk, hEn⟩ := hC
  have hf2 : fJ9_max_7cf53 As M = some (r, M') := hf2
  unfold fJ9_max_7cf53 at hf2
  split at hf2
  · cases hf2
    refine va_mmax hx hb (by rw [hml]; exact hl.2.1.symm) hown (hts _ h1) (hts _ (show Cond.static Lib.Math.max.name ∈ xTB from (xt5 (List.mem_of_getElem? (i := 8) rfl) rfl))) (hts _ (xt1 (List.mem_of_getElem? (i := 19) rfl) rfl)) (hts _ (show Cond.code Lib.Math.max.name Lib.Math.max.code 2 (some .int) ∈ xTB from (xt5 (List.mem_of_getElem? (i := 9) rfl) rfl))) hd (by rw [xcats_sum]; show _ ≤ 60 * d; have : xcats ([].append S) ≤ 8 := hcat; omega) (Nat.le_refl _) (Nat.le_refl _) hdg ?_
    exact hw H locs ls hW hF hl (xok_cons trivial (fun v hv => hS v (List.mem_append_right _ hv)))
  · cases hf2
theorem xco_min {E : xE} {D : xD} {own : String} {d idx : Nat} (hd : 1 ≤ d) (h1 : Cond.methodLink own idx Lib.Math.min.name ∈ xTB) : xco E D own d (idx, true, 0, 2, 1, fJ9_min_7cf53) := by
  intro p l e s m args below meth c cc nL Q ad pc L S As M M' r hC hdg hf2 hn hcat hrc hro hw H locs ls hW hF hl hS
  obtain ⟨hx, hb, hml, hown, hts, hlk, hEn⟩ := hC
  have hf2 : fJ9_min_7cf53 As M = some (r, M') := hf2
  unfold fJ9_min_7cf53 at hf2
  split at hf2
  · cases hf2
    refine va_mmin hx hb (by rw [hml]; exact hl.2.1.symm) hown (hts _ h1) (hts _ (show Cond.static Lib.Math.min.name ∈ xTB from (xt4 (List.mem_of_getElem? (i := 133) rfl) rfl))) (hts _ (xt1 (List.mem_of_getElem? (i := 19) rfl) rfl)) (hts _ (show Cond.code Lib.Math.min.name Lib.Math.min.code 2 (some .int) ∈ xTB from (xt4 (List.mem_of_getElem? (i := 134) rfl) rfl))) hd (by rw [xcats_sum]; show _ ≤ 60 * d; have : xcats ([].append S) ≤ 8 := hcat; omega) (Nat.le_refl _) (Nat.le_refl _) hdg ?_
    exact hw H locs ls hW hF hl (xok_cons trivial (fun v hv => hS v (List.mem_append_right _ hv)))
  · cases hf2
theorem xco_abs {E : xE} {D : xD} {own : String} {d idx : Nat} (hd : 1 ≤ d) (h1 : Cond.methodLink own idx Lib.Math.abs.name ∈ xTB) : xco E D own d (idx, true, 0, 1, 1, fJ9_abs_0f7a4) := by
  intro p l e s m args below meth c cc nL Q ad pc L S As M M' r hC hdg hf2 hn hcat hrc hro hw H locs ls hW hF hl hS
  obtain ⟨hx, hb, hml, hown, hts, hlk, hEn⟩ := hC
  have hf2 : fJ9_abs_0f7a4 As M = some (r, M') := hf2
  unfold fJ9_abs_0f7a4 at hf2
  split at hf2
  · cases hf2
    refine va_mabs hx hb (by rw [hml]; exact hl.2.1.symm) hown (hts _ h1) (hts _ (show Cond.static Lib.Math.abs.name ∈ xTB from (xt5 (List.mem_of_getElem? (i := 175) rfl) rfl))) (hts _ (xt1 (List.mem_of_getElem? (i := 19) rfl) rfl)) (hts _ (show Cond.code Lib.Math.abs.name Lib.Math.abs.code 1 (some .int) ∈ xTB from (xt5 (List.mem_of_getElem? (i := 176) rfl) rfl))) hd (by rw [xcats_sum]; show _ ≤ 60 * d; have : xcats ([].append S) ≤ 8 := hcat; omega) (Nat.le_refl _) (Nat.le_refl _) hdg ?_
    exact hw H locs ls hW hF hl (xok_cons trivial (fun v hv => hS v (List.mem_append_right _ hv)))
  · cases hf2
