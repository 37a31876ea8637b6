/-! The law's walk -/
def R_law : String := "HandsOrderLaw"
def lw_P (b : Addr) (xs : List Int32) (args : Array Value) (s : State) : Prop := args = #[.ref b] ∧ s.IntsAt b xs ∧ xs.length ≤ 3072 ∧ (Jvm.Cond.and given_1 narrow_1).before args s = true
def lw_Q (_ : Array Value) (s : State) (o : Outcome) (t : State) : Prop := o = .returned (some (.int 1)) ∧ Framed s o t [] 600000 7302250
def lw_Z (below : List Frame) (a : Array Value) (s : State) : State → Prop := fun t => ∃ o, t.status = .running ∧ Ended t below o ∧ lw_Q a s o t
/-- the law's own end, with 1 on the stack, nothing written that was there before, its room as the claim has it -/
theorem lw_ret {p : Program} {l : Launch} {e : Env} {s : State} {m : MethodId} {below : List Frame} {meth : Method} {c : Code} {b : Nat} (hx : p.tables.exec = Jvm.exec) (hb : c.code = code) (hr : meth.sig.returnType = ret) (hlocks : meth.locks = false) {pc : Nat} {H : Heap} {ls : Array Slot} (hdg : decode code pc = .ok (.ireturn, 1)) : W p l e room_1 s m #[Value.ref b] below meth c H [] 600000 7302250 (lw_Z below #[Value.ref b] s) (F0 m pc ls [.int 1]) := by
  intro T hT X
  obtain ⟨fs, hret, hrun, hended, hW, hframe⟩ := X.leave (v := some (.int 1)) (hlocks := hlocks) (fun h => by rw [hr] at h; cases h)
  have hmeth' : T.vm.method? m = some meth := X.method'
  refine ⟨T.setFrames fs, ?_, .returned (some (.int 1)), hrun, hended, rfl, ⟨_, rfl⟩, hW, hframe⟩
  jvm_step X.here [X.here.top, hx, hb, hdg, hmeth', hr, ret, narrow_b1]
  (try refine ⟨rfl, ?_⟩); (try refine ⟨rfl, ?_⟩)
  first | (intro acts; rw [hret _ acts rfl rfl rfl]) | rw [hret _ _ rfl rfl rfl]
  exact Steps.refl _
/-- what holds at the law's entry: the machine, the code, the tables' words (any of lw_tbl by 'hts w (by decide +kernel)'), the script of L ints xs at the cell b, what the Statement gives of the start (any of its parts by flat_of_before) -/
def lw_At (p : Program) (s : State) (m : MethodId) (meth : Method) (c : Code) (b L : Nat) (xs : Nat → Int32) : Prop :=
  p.tables.exec = Jvm.exec ∧ c.code = code ∧ meth.sig.returnType = ret ∧ c.maxLocals = 4 ∧ s.vm.findClass R_law = some m.cls ∧ (∀ w ∈ lw_tbl, w.before #[Value.ref b] s = true) ∧ va_X b L xs s s.heap ∧ b < s.heap.size ∧ meth.locks = false ∧ (Jvm.Cond.and given_1 narrow_1).before #[Value.ref b] s = true
theorem zgt {L j : Nat} (hL : L ≤ 3072) (hj : j ≤ 3072 + 6) (h : L < j + 6) : Int32.ofNat L - 6 < nI j := by
  have h6 : (6 : Int32) = nI 6 := rfl
  rw [Int32.lt_iff_toInt_lt, h6, show (Int32.ofNat L - nI 6).toInt = (L : Int) - 6 from pk_sub_toInt (a := L) (b := 6) (by omega) (by omega), nI_toInt (by omega)]
  omega
theorem zSim_less : ∀ {n : Nat} {MX MM : xM}, zSim (n + 1) MX MM → zSim n MX MM
  | 0, _, _, _ => trivial
  | n + 1, MX, MM, h => fun c hc a1 a2 a3 a4 a5 => by
    obtain ⟨r, MX', MM', h0, h1, h2, h3⟩ := h c hc a1 a2 a3 a4 a5
    exact ⟨r, MX', MM', h0, h1, h2, zSim_less h3⟩
section
variable {p : Program} {l : Launch} {e : Env} {s : State} {m : MethodId} {b0 : Nat} {below : List Frame} {meth : Method} {c : Code} {D : xD} {st : Nat → Nat}
set_option maxHeartbeats 4000000 in
set_option maxRecDepth 100000 in
theorem zloop (hC : zC p s m #[Value.ref b0] meth c D st) (hret : meth.sig.returnType = ret) {L : Nat} {xs : Nat → Int32} (hX : va_X b0 L xs s s.heap) (hbl : b0 < s.heap.size) (hL : L ≤ 3072) : ∀ (N j : Nat) (MX MM : xM) (H : Heap) (locs : List Loc) (ls : Array Slot), L < j + 6 * N + 6 → j ≤ 3072 → zSim N MX MM → zI D st s MX MM H locs → lv_has ls 4 [(3, .int (nI j)), (2, .ref (zm st s (12, 0))), (1, .ref (zx st s (11, 0))), (0, .ref b0)] → W p l e room_1 s m #[Value.ref b0] below meth c H locs 224 34231 (lw_Z below #[Value.ref b0] s) (F0 m 18 ls []) := by
  intro N
  induction N with
  | zero =>
    intro j MX MM H locs ls hN hj hsim hI hl
    have hC2 := hC
    obtain ⟨hx, hb, hml, hown, hts, hlk, hB⟩ := hC2
    refine lv_iload_n hx hb dL_law_18 rfl (lv_at hl 0 rfl) ?_
    refine lv_aload_n hx hb dL_law_19 rfl (lv_at hl 3 rfl) ?_
    refine va_slen (A := fun q => s.heap.size ≤ q) hx hb hX hbl (by omega) hI.S dL_law_20 ?_
    refine lv_bipush (v := 6) hx hb dL_law_21 (by decide) ?_
    refine lv_isub hx hb dL_law_23 ?_
    refine lv_icmp_gt hx hb dL_law_24 (tgt := 1291) (by decide) (fun _ => ?_) (fun q => absurd (zgt (by omega) (by omega) (by omega)) q)
    refine lv_iconst (v := 1) hx hb dL_law_1291 (by decide) ?_
    refine va_forget hI.2.2.2.2 (W.widen (k := 600000) (n := 7302250) (by decide) (by decide) ?_)
    exact lw_ret hx hb hret hlk dL_law_1292
  | succ N ih =>
    intro j MX MM H locs ls hN hj hsim hI hl
    have hC2 := hC
    obtain ⟨hx, hb, hml, hown, hts, hlk, hB⟩ := hC2
    refine lv_iload_n hx hb dL_law_18 rfl (lv_at hl 0 rfl) ?_
    refine lv_aload_n hx hb dL_law_19 rfl (lv_at hl 3 rfl) ?_
    refine va_slen (A := fun q => s.heap.size ≤ q) hx hb hX hbl (by omega) hI.S dL_law_20 ?_
    refine lv_bipush (v := 6) hx hb dL_law_21 (by decide) ?_
    refine lv_isub hx hb dL_law_23 ?_
    refine lv_icmp_gt hx hb dL_law_24 (tgt := 1291) (by decide) (fun _ => ?_) (fun q => ?_)
    · refine lv_iconst (v := 1) hx hb dL_law_1291 (by decide) ?_
      refine va_forget hI.2.2.2.2 (W.widen (k := 600000) (n := 7302250) (by decide) (by decide) ?_)
      exact lw_ret hx hb hret hlk dL_law_1292
    have hjL : j + 6 ≤ L := Nat.not_lt.mp fun z => q (zgt (by omega) (by omega) (by omega))
    refine lv_aload_n hx hb dL_law_27 rfl (lv_at hl 3 rfl) ?_
    refine lv_iload_n hx hb dL_law_28 rfl (lv_at hl 0 rfl) ?_
    refine va_sld (A := fun q => s.heap.size ≤ q) hx hb hX hbl (by omega) hI.S (vp_in_nI (by omega) (by omega)) dL_law_29 ?_
    rw [nI_clamp (by omega)]
    refine lv_bipush (v := 63) hx hb dL_law_30 (by decide) ?_
    refine lv_iand hx hb dL_law_32 ?_
    obtain ⟨k, hk, ek⟩ := pk_andE (xs j) (m := 63) 6 (by decide)
    rw [ek]
    have back : ∀ (MX' MM' : xM) (H' : Heap) (locs' : List Loc), zSim N MX' MM' → zI D st s MX' MM' H' locs' → W p l e room_1 s m #[Value.ref b0] below meth c H' locs' 224 34231 (lw_Z below #[Value.ref b0] s) (F0 m 1285 ls []) := by
      intro MX' MM' H' locs' hs hI'
      refine lv_iinc hx hb dL_law_1285 hl (k := 0) rfl (v := nI (j + 6)) (by rw [← nI_add]; rfl) (by decide) rfl (fun ls2 hl2 => ?_)
      refine lv_goto hx hb dL_law_1288 (tgt := 18) (by decide) ?_
      exact ih (j + 6) MX' MM' H' locs' ls2 (by omega) (by omega) hs hI' (lv_sub hl2 [0, 1, 2, 3] rfl)
    by_cases hk33 : k < 33
    · obtain ⟨r, MX', MM', h0, h1, h2, h3⟩ := hsim k hk33 (xs (j + 1)) (xs (j + 2)) (xs (j + 3)) (xs (j + 4)) (xs (j + 5))
      have hlo : ¬ (nI k).toInt < 0 := by rw [nI_toInt (by omega)]; omega
      have hhi : ¬ (32 : Int) < (nI k).toInt := by rw [nI_toInt (by omega)]; omega
      have hix : ((nI k).toInt - 0).toNat = k := by rw [nI_toInt (by omega)]; omega
      match k, hk33 with
      | 0, _ =>
        obtain ⟨y, rfl⟩ := h0
        exact lv_tableIn hx hb dL_law_33 hlo hhi (off := 147) (by rw [hix]; rfl) (tgt := 180) (by decide) (zc0 hC hX hbl hl hjL hL (by decide) (by decide) hI h1 h2 (fun H' locs' hI' => back _ _ _ _ h3 hI'))
      | 1, _ =>
        obtain ⟨y, rfl⟩ := h0
        exact lv_tableIn hx hb dL_law_33 hlo hhi (off := 210) (by rw [hix]; rfl) (tgt := 243) (by decide) (zc1 hC hX hbl hl hjL hL (by decide) (by decide) hI h1 h2 (fun H' locs' hI' => back _ _ _ _ h3 hI'))
      | 2, _ =>
        obtain ⟨y, rfl⟩ := h0
        exact lv_tableIn hx hb dL_law_33 hlo hhi (off := 233) (by rw [hix]; rfl) (tgt := 266) (by decide) (zc2 hC hX hbl hl hjL hL (by decide) (by decide) hI h1 h2 (fun H' locs' hI' => back _ _ _ _ h3 hI'))
      | 3, _ =>
        obtain ⟨y, rfl⟩ := h0
        exact lv_tableIn hx hb dL_law_33 hlo hhi (off := 246) (by rw [hix]; rfl) (tgt := 279) (by decide) (zc3 hC hX hbl hl hjL hL (by decide) (by decide) hI h1 h2 (fun H' locs' hI' => back _ _ _ _ h3 hI'))
      | 4, _ =>
        obtain ⟨y, rfl⟩ := h0
        exact lv_tableIn hx hb dL_law_33 hlo hhi (off := 269) (by rw [hix]; rfl) (tgt := 302) (by decide) (zc4 hC hX hbl hl hjL hL (by decide) (by decide) hI h1 h2 (fun H' locs' hI' => back _ _ _ _ h3 hI'))
      | 5, _ =>
        obtain ⟨y, rfl⟩ := h0
        exact lv_tableIn hx hb dL_law_33 hlo hhi (off := 312) (by rw [hix]; rfl) (tgt := 345) (by decide) (zc5 hC hX hbl hl hjL hL (by decide) (by decide) hI h1 h2 (fun H' locs' hI' => back _ _ _ _ h3 hI'))
      | 6, _ =>
        obtain ⟨y, rfl⟩ := h0
        exact lv_tableIn hx hb dL_law_33 hlo hhi (off := 345) (by rw [hix]; rfl) (tgt := 378) (by decide) (zc6 hC hX hbl hl hjL hL (by decide) (by decide) hI h1 h2 (fun H' locs' hI' => back _ _ _ _ h3 hI'))
      | 7, _ =>
        obtain ⟨y, rfl⟩ := h0
        exact lv_tableIn hx hb dL_law_33 hlo hhi (off := 378) (by rw [hix]; rfl) (tgt := 411) (by decide) (zc7 hC hX hbl hl hjL hL (by decide) (by decide) hI h1 h2 (fun H' locs' hI' => back _ _ _ _ h3 hI'))
      | 8, _ =>
        obtain ⟨y, rfl⟩ := h0
        exact lv_tableIn hx hb dL_law_33 hlo hhi (off := 427) (by rw [hix]; rfl) (tgt := 460) (by decide) (zc8 hC hX hbl hl hjL hL (by decide) (by decide) hI h1 h2 (fun H' locs' hI' => back _ _ _ _ h3 hI'))
      | 9, _ =>
        obtain ⟨y, rfl⟩ := h0
        exact lv_tableIn hx hb dL_law_33 hlo hhi (off := 470) (by rw [hix]; rfl) (tgt := 503) (by decide) (zc9 hC hX hbl hl hjL hL (by decide) (by decide) hI h1 h2 (fun H' locs' hI' => back _ _ _ _ h3 hI'))
      | 10, _ =>
        obtain ⟨y, rfl⟩ := h0
        exact lv_tableIn hx hb dL_law_33 hlo hhi (off := 504) (by rw [hix]; rfl) (tgt := 537) (by decide) (zc10 hC hX hbl hl hjL hL (by decide) (by decide) hI h1 h2 (fun H' locs' hI' => back _ _ _ _ h3 hI'))
      | 11, _ =>
        obtain ⟨y, rfl⟩ := h0
        exact lv_tableIn hx hb dL_law_33 hlo hhi (off := 527) (by rw [hix]; rfl) (tgt := 560) (by decide) (zc11 hC hX hbl hl hjL hL (by decide) (by decide) hI h1 h2 (fun H' locs' hI' => back _ _ _ _ h3 hI'))
      | 12, _ =>
        obtain ⟨y, rfl⟩ := h0
        exact lv_tableIn hx hb dL_law_33 hlo hhi (off := 560) (by rw [hix]; rfl) (tgt := 593) (by decide) (zc12 hC hX hbl hl hjL hL (by decide) (by decide) hI h1 h2 (fun H' locs' hI' => back _ _ _ _ h3 hI'))
      | 13, _ =>
        obtain ⟨y, rfl⟩ := h0
        exact lv_tableIn hx hb dL_law_33 hlo hhi (off := 603) (by rw [hix]; rfl) (tgt := 636) (by decide) (zc13 hC hX hbl hl hjL hL (by decide) (by decide) hI h1 h2 (fun H' locs' hI' => back _ _ _ _ h3 hI'))
      | 14, _ =>
        obtain ⟨y, rfl⟩ := h0
        exact lv_tableIn hx hb dL_law_33 hlo hhi (off := 626) (by rw [hix]; rfl) (tgt := 659) (by decide) (zc14 hC hX hbl hl hjL hL (by decide) (by decide) hI h1 h2 (fun H' locs' hI' => back _ _ _ _ h3 hI'))
      | 15, _ =>
        obtain ⟨y, rfl⟩ := h0
        exact lv_tableIn hx hb dL_law_33 hlo hhi (off := 649) (by rw [hix]; rfl) (tgt := 682) (by decide) (zc15 hC hX hbl hl hjL hL (by decide) (by decide) hI h1 h2 (fun H' locs' hI' => back _ _ _ _ h3 hI'))
      | 16, _ =>
        obtain ⟨y, rfl⟩ := h0
        exact lv_tableIn hx hb dL_law_33 hlo hhi (off := 693) (by rw [hix]; rfl) (tgt := 726) (by decide) (zc16 hC hX hbl hl hjL hL (by decide) (by decide) hI h1 h2 (fun H' locs' hI' => back _ _ _ _ h3 hI'))
      | 17, _ =>
        obtain ⟨y, rfl⟩ := h0
        exact lv_tableIn hx hb dL_law_33 hlo hhi (off := 736) (by rw [hix]; rfl) (tgt := 769) (by decide) (zc17 hC hX hbl hl hjL hL (by decide) (by decide) hI h1 h2 (fun H' locs' hI' => back _ _ _ _ h3 hI'))
      | 18, _ =>
        obtain ⟨y, rfl⟩ := h0
        exact lv_tableIn hx hb dL_law_33 hlo hhi (off := 769) (by rw [hix]; rfl) (tgt := 802) (by decide) (zc18 hC hX hbl hl hjL hL (by decide) (by decide) hI h1 h2 (fun H' locs' hI' => back _ _ _ _ h3 hI'))
      | 19, _ =>
        obtain ⟨y, rfl⟩ := h0
        exact lv_tableIn hx hb dL_law_33 hlo hhi (off := 802) (by rw [hix]; rfl) (tgt := 835) (by decide) (zc19 hC hX hbl hl hjL hL (by decide) (by decide) hI h1 h2 (fun H' locs' hI' => back _ _ _ _ h3 hI'))
      | 20, _ =>
        obtain ⟨y, rfl⟩ := h0
        exact lv_tableIn hx hb dL_law_33 hlo hhi (off := 825) (by rw [hix]; rfl) (tgt := 858) (by decide) (zc20 hC hX hbl hl hjL hL (by decide) (by decide) hI h1 h2 (fun H' locs' hI' => back _ _ _ _ h3 hI'))
      | 21, _ =>
        obtain ⟨y, rfl⟩ := h0
        exact lv_tableIn hx hb dL_law_33 hlo hhi (off := 838) (by rw [hix]; rfl) (tgt := 871) (by decide) (zc21 hC hX hbl hl hjL hL (by decide) (by decide) hI h1 h2 (fun H' locs' hI' => back _ _ _ _ h3 hI'))
      | 22, _ =>
        obtain ⟨y, rfl⟩ := h0
        exact lv_tableIn hx hb dL_law_33 hlo hhi (off := 897) (by rw [hix]; rfl) (tgt := 930) (by decide) (zc22 hC hX hbl hl hjL hL (by decide) (by decide) hI h1 h2 (fun H' locs' hI' => back _ _ _ _ h3 hI'))
      | 23, _ =>
        obtain ⟨y, rfl⟩ := h0
        exact lv_tableIn hx hb dL_law_33 hlo hhi (off := 921) (by rw [hix]; rfl) (tgt := 954) (by decide) (zc23 hC hX hbl hl hjL hL (by decide) (by decide) hI h1 h2 (fun H' locs' hI' => back _ _ _ _ h3 hI'))
      | 24, _ =>
        obtain ⟨y, rfl⟩ := h0
        exact lv_tableIn hx hb dL_law_33 hlo hhi (off := 964) (by rw [hix]; rfl) (tgt := 997) (by decide) (zc24 hC hX hbl hl hjL hL (by decide) (by decide) hI h1 h2 (fun H' locs' hI' => back _ _ _ _ h3 hI'))
      | 25, _ =>
        obtain ⟨y, rfl⟩ := h0
        exact lv_tableIn hx hb dL_law_33 hlo hhi (off := 987) (by rw [hix]; rfl) (tgt := 1020) (by decide) (zc25 hC hX hbl hl hjL hL (by decide) (by decide) hI h1 h2 (fun H' locs' hI' => back _ _ _ _ h3 hI'))
      | 26, _ =>
        obtain ⟨y, rfl⟩ := h0
        exact lv_tableIn hx hb dL_law_33 hlo hhi (off := 1011) (by rw [hix]; rfl) (tgt := 1044) (by decide) (zc26 hC hX hbl hl hjL hL (by decide) (by decide) hI h1 h2 (fun H' locs' hI' => back _ _ _ _ h3 hI'))
      | 27, _ =>
        obtain ⟨y, rfl⟩ := h0
        exact lv_tableIn hx hb dL_law_33 hlo hhi (off := 1024) (by rw [hix]; rfl) (tgt := 1057) (by decide) (zc27 hC hX hbl hl hjL hL (by decide) (by decide) hI h1 h2 (fun H' locs' hI' => back _ _ _ _ h3 hI'))
      | 28, _ =>
        obtain ⟨y, rfl⟩ := h0
        exact lv_tableIn hx hb dL_law_33 hlo hhi (off := 1047) (by rw [hix]; rfl) (tgt := 1080) (by decide) (zc28 hC hX hbl hl hjL hL (by decide) (by decide) hI h1 h2 (fun H' locs' hI' => back _ _ _ _ h3 hI'))
      | 29, _ =>
        obtain ⟨y, rfl⟩ := h0
        exact lv_tableIn hx hb dL_law_33 hlo hhi (off := 1100) (by rw [hix]; rfl) (tgt := 1133) (by decide) (zc29 hC hX hbl hl hjL hL (by decide) (by decide) hI h1 h2 (fun H' locs' hI' => back _ _ _ _ h3 hI'))
      | 30, _ =>
        obtain ⟨y, rfl⟩ := h0
        exact lv_tableIn hx hb dL_law_33 hlo hhi (off := 1143) (by rw [hix]; rfl) (tgt := 1176) (by decide) (zc30 hC hX hbl hl hjL hL (by decide) (by decide) hI h1 h2 (fun H' locs' hI' => back _ _ _ _ h3 hI'))
      | 31, _ =>
        obtain ⟨y, rfl⟩ := h0
        exact lv_tableIn hx hb dL_law_33 hlo hhi (off := 1176) (by rw [hix]; rfl) (tgt := 1209) (by decide) (zc31 hC hX hbl hl hjL hL (by decide) (by decide) hI h1 h2 (fun H' locs' hI' => back _ _ _ _ h3 hI'))
      | 32, _ =>
        obtain ⟨y, rfl⟩ := h0
        exact lv_tableIn hx hb dL_law_33 hlo hhi (off := 1219) (by rw [hix]; rfl) (tgt := 1252) (by decide) (zc32 hC hX hbl hl hjL hL (by decide) (by decide) hI h1 h2 (fun H' locs' hI' => back _ _ _ _ h3 hI'))
    · exact lv_tableOut hx hb dL_law_33 (Or.inr (by rw [nI_toInt (by omega)]; omega)) (tgt := 1285) (by decide) (back MX MM H locs (zSim_less hsim) hI)
end
/-- a new object of a class, by the law -/
theorem znew {p : Program} {l : Launch} {e : Env} {s : State} {m : MethodId} {args : Array Value} {below : List Frame} {meth : Method} {c : Code} {Q : State → Prop} {D : xD} {st : Nat → Nat} {pc : Nat} {ls : Array Slot} {H : Heap} {locs : List Loc} {cells slots : Nat} {rest : List Value} (hC : zC p s m args meth c D st) {idx ci : Nat} (hn : ynt RL (idx, ci)) (hdg : decode code pc = .ok (.new idx, 3)) (hc1 : cells + 1 ≤ 600000) (hs1 : slots + (fkX ci).length ≤ 7302250)
    (k : ∀ H' : Heap, yH H.size D [(0, ci, ybl ci)] H' → (∀ q : Nat, q < H.size → H'[q]? = H[q]?) → W p l e room_1 s m args below meth c H' locs (cells + 1) (slots + (fkX ci).length) Q (F0 m (pc + 3) ls (.ref H.size :: rest))) : W p l e room_1 s m args below meth c H locs cells slots Q (F0 m pc ls rest) := by
  obtain ⟨hx, hb, hml, hown, hts, hlk, hB⟩ := hC
  obtain ⟨C, T, N, g1, g2, ⟨g3, g4⟩, g5⟩ := hn
  dsimp only at g1 g2 g3 g4 g5
  subst g5
  have hin := (xcg_ok ci C T _ g1).1
  obtain ⟨-, ty0, hty0, hkm⟩ := ycg_ok ci C T _ g1
  have hK1 := hB.1 ci _ g1
  refine W.newcK hx hb hown (hts _ g2) (hts _ g3) (hts _ g4) rfl hdg hc1 hs1 hK1.2.1 rfl fun H' kC hkC e1 z1 o1 => ?_
  refine k H' ⟨z1, fun i k2 hi => ?_⟩ o1
  have hi0 : i = 0 := by
    have := (List.getElem?_eq_some_iff.mp hi).1
    simp at this
    omega
  subst hi0
  cases hi
  refine ⟨_, g1, by simp [ybl], (u_born ty0 hts hin hK1 hkC e1 hty0).to (fun j hj => ?_)⟩
  dsimp only at hj ⊢
  have hj2 : (fkX ci)[j]? = some (fkX ci)[j] := List.getElem?_eq_getElem hj
  show defaultValue (ty0 j) = yc H.size ((ybl ci).getD j none)
  rw [ydef (hkm j _ hj hj2) H.size, ybl, List.getD_eq_getElem?_getD, List.getElem?_map, hj2]
  rfl
/-- its constructor -/
theorem zinit {p : Program} {l : Launch} {e : Env} {s : State} {m : MethodId} {args : Array Value} {below : List Frame} {meth : Method} {c : Code} {Q : State → Prop} {D : xD} {st : Nat → Nat} {pc b : Nat} {ls : Array Slot} {H : Heap} {locs : List Loc} {cells slots : Nat} {rest : List Value} (hC : zC p s m args meth c D st) (hls : ls.size = 4) {idx d nL mc ms : Nat} {y : MethodName} {cc : ByteArray} {f : yF} (hM : yC D y cc nL d mc ms f) (hd : d ≤ 100 ∧ nL ≤ 40) (h1 : Cond.methodLink RL idx y ∈ xTB) (h2 : Cond.instanceMethod y ∈ xTB) (h4 : Cond.initialized y.cls ∈ xTB) (h5 : Cond.code y cc nL none ∈ xTB) (hy1 : y.name = "<init>") (hy : y.cls ≠ "java/lang/invoke/MethodHandle" ∧ y.cls ≠ "java/lang/invoke/VarHandle" ∧ (parseMethodDescriptor y.desc).map (fun d => d.parameters.length) = some 0)
    {m0 m1 : List yK} (hf : f [.inr (.inr (0, 0))] m0 = some m1) (hW : yH b D m0 H) (hdg : decode code pc = .ok (.invokespecial idx, 3)) (hc1 : cells + mc ≤ 600000) (hs1 : slots + ms ≤ 7302250) (hcat : (rest.map fun v => v.category).sum ≤ 8)
    (k : ∀ (H' : Heap) (locs' : List Loc), yH b D m1 H' → (∀ q : Nat, q < b → H'[q]? = H[q]?) → (∀ q ∈ locs', q ∈ locs ∨ b ≤ q.base) → W p l e room_1 s m args below meth c H' locs' (cells + mc) (slots + ms) Q (F0 m (pc + 3) ls rest)) : W p l e room_1 s m args below meth c H locs cells slots Q (F0 m pc ls (.ref b :: rest)) := by
  obtain ⟨hx, hb, hml, hown, hts, hlk, hB⟩ := hC
  have hrun := va_runI (l := l) (e := e) (R := room_1) (below := below) (meth := meth) (locs := locs) (cells := cells) (slots := slots) (H := H) (As := []) (rest := rest) (b := b) (n := 0) (g := F0 m pc ls (.ref b :: rest)) ⟨hx, hb, hml, hown, hts⟩ (hM l b [.inr (.inr (0, 0))] m0 m1 hf (fun v hv => by simp at hv; subst hv; show (0 : Nat) < 1000000; decide))
    (cwI 0 hts (xgood (fun w hw2 => by
      rcases List.mem_cons.mp hw2 with rfl | hw2
      · exact h5
      · exact hw2)) rfl rfl rfl (hts _ h4) (hts _ h1) (hts _ h2) hy1 hy ⟨by show d + 1 ≤ 2048; omega, by show 8 + (nL + 11) + 60 * d ≤ 84000; omega⟩)
    ⟨yPc_blind, fun U hU hWm => ⟨by simp [xc, yad], hB.y hWm, by rw [hU]; exact hW⟩⟩
    rfl rfl hls rfl (lv_room hcat) hdg ⟨hc1, hs1⟩
  intro T hT X
  obtain ⟨v, st₀, t, T', L', h0, X', hL, e1, e2, ⟨q1, q2, q3, q4⟩, sp⟩ := hrun T hT X
  have hv : v = none := Outcome.returned.inj q1
  subst hv
  rw [h0] at q3 q4
  obtain ⟨t2, a1, b1⟩ := k T'.heap (locs ++ L') (by rw [e1]; exact q2) (fun q hq => by rw [e1]; exact q4 q hq) (fun q hq => by
    rcases List.mem_append.mp hq with h | h
    · exact Or.inl h
    · exact Or.inr (hL q h)) T' rfl X'
  exact ⟨t2, sp t2 a1, b1⟩
theorem znt7 : ynt RL (7, 11) := ⟨RX11, TX11, 13, rfl, (xt1 (List.mem_of_getElem? (i := 22) rfl) rfl), ⟨(xt1 (List.mem_of_getElem? (i := 23) rfl) rfl), xinX11⟩, by decide +kernel⟩
theorem znt10 : ynt RL (10, 12) := ⟨RX12, TX12, 83, rfl, (xt6 (List.mem_of_getElem? (i := 159) rfl) rfl), ⟨(xt6 (List.mem_of_getElem? (i := 160) rfl) rfl), xinX12⟩, by decide +kernel⟩
set_option maxHeartbeats 4000000 in
set_option maxRecDepth 100000 in
theorem whole_open (hsim : zSim 512 MX0 MM0) {p : Program} {e : Env} {s : State} {m : MethodId} {below : List Frame} {meth : Method} {c : Code} (l : Launch) {b L : Nat} {xs : Nat → Int32} (hL : L ≤ 3072) (C0 : lw_At p s m meth c b L xs) : W p l e room_1 s m #[Value.ref b] below meth c s.heap [] 0 0 (lw_Z below #[Value.ref b] s) (entryFrame m ([Value.ref b] : List Value).toArray 4) := by
  obtain ⟨hx, hb, hr, hml, hown, hts, hX, hbl, hlk, hgv⟩ := C0
  obtain ⟨D, st, hB⟩ := zB_of hts hgv
  have hC : zC p s m #[Value.ref b] meth c D st := ⟨hx, hb, hml, hown, fun w hw => hts w (List.mem_filter.mp hw).1, hlk, hB⟩
  have hl := lv_entry ([.ref b]) (n := 4) (Nat.le_of_ble_eq_true rfl)
  rw [lg_entry_eq]
  generalize (lg_sl ([.ref b]) ++ List.replicate (4 - (lg_sl ([.ref b])).length) Slot.unset).toArray = ls at hl ⊢
  have hl : lv_has ls 4 [(0, .ref b)] := hl
  have eX0 : zx st s (11, 0) = s.heap.size := by show sad _ _ _ _ = _; unfold sad; rw [if_neg (by decide)]; rfl
  have eM0 : zm st s (12, 0) = s.heap.size + 165 := by show sad _ _ _ _ = _; unfold sad; rw [if_neg (by decide)]; rfl
  refine znew hC znt7 dL_law_0 (by decide) (by decide) (fun H1 y1 o1 => ?_)
  refine lv_dup hx hb dL_law_3 rfl ?_
  refine zinit hC hl.1 vX11_init (by decide) (xt1 (List.mem_of_getElem? (i := 24) rfl) rfl) wiX11_init xinX11 wcX11_init rfl (by decide +kernel) memX_ok y1 dL_law_4 (by decide) (by decide) (Nat.le_of_ble_eq_true rfl) (fun H2 locs2 y2 o2 l2 => ?_)
  refine lv_astore_n hx hb dL_law_7 rfl hl (by decide) rfl (fun ls2 hl2 => ?_)
  have z2 : H2.size = s.heap.size + 165 := by rw [y2.1]; have : memX.length = 165 := by decide +kernel
                                              omega
  refine znew hC znt10 dL_law_8 (by decide) (by decide) (fun H3 y3 o3 => ?_)
  refine lv_dup hx hb dL_law_11 rfl ?_
  refine zinit hC hl2.1 vX12_init (by decide) (xt6 (List.mem_of_getElem? (i := 161) rfl) rfl) wiX12_init xinX12 wcX12_init rfl (by decide +kernel) memM_ok y3 dL_law_12 (by decide) (by decide) (Nat.le_of_ble_eq_true rfl) (fun H4 locs4 y4 o4 l4 => ?_)
  refine lv_astore_n hx hb dL_law_15 rfl hl2 (by decide) rfl (fun ls3 hl3 => ?_)
  refine lv_iconst (v := 0) hx hb dL_law_16 (by decide) ?_
  refine lv_istore_n hx hb dL_law_17 rfl hl3 (by decide) rfl (fun ls4 hl4 => ?_)
  have h42 : ∀ q : Nat, q < s.heap.size + 165 → H4[q]? = H2[q]? := fun q hq => by rw [o4 q (by omega), o3 q (by omega)]
  have h20 : ∀ q : Nat, q < s.heap.size → H4[q]? = s.heap[q]? := fun q hq => by rw [h42 q (by omega), o2 q hq, o1 q hq]
  refine W.cs (cells' := 224) (slots' := 34231) (by decide) (by decide) ?_
  refine zloop hC hr hX hbl (by omega) 512 0 MX0 MM0 H4 locs4 ls4 (by omega) (by omega) hsim ⟨?_, ?_, ?_, h20, ?_⟩ ?_
  · refine (wdX y2).kept (fun r hr2 => h42 _ ?_)
    exact (ownX (b := s.heap.size) (st := st) ⟨r, hr2, rfl⟩).2
  · rw [z2] at y4
    exact wdM y4
  · rw [y4.1, z2]
    have : memM.length = 59 := by decide +kernel
    omega
  · intro q hq
    rcases l4 q hq with h | h
    · rcases l2 q h with h | h
      · cases h
      · exact h
    · omega
  · rw [eX0, eM0, ← z2]
    exact lv_sub hl4 [0, 1, 2, 3] rfl
