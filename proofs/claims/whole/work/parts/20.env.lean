/-! The law's start: what its premises give -/
def ztL : List (String × Nat) := [(RX9, 48), (RX9, 94), (RX9, 58), (RX4, 65), (RX8, 69), (RX8, 75), (RX8, 77), (RX8, 79), (RX8, 81), (RX8, 83)]
def ztm (i : Nat) : Term := .string (ztL.getD i ("", 0)).1 (ztL.getD i ("", 0)).2
def zuL : List Nat := [229, 235, 236, 238, 240, 242, 244, 246, 248, 250]
/-- what the start gives, in cells that the law never writes -/
def zB (D : xD) (st : Nat → Nat) (s : State) : Prop := (∀ (c : Nat) (q : vw_C), vwCl[c]? = some q → u_Kn s q.1 q.2.1 q.2.2 (D.1 c) (D.2.1 c)) ∧ (yAr s D 1 .int ∧ yAr s D 2 .long ∧ yAr s D 3 .byte ∧ yAr s D 4 .boolean ∧ yAr s D 5 (.object RX6)) ∧ (∀ w ∈ xNw, va_Nw w s) ∧ va_AO RX6 s ∧ (∀ q ∈ xSt, vk_R q.1 q.2.1 q.2.2.1 (st q.2.2.2) s) ∧
  ∃ adV : Nat → Nat, vk_S 10 xSl xSb st adV (fun q => s.heap.size ≤ q) s s.heap ∧ va_Z "java/lang/String" "COMPACT_STRINGS" "Z" (.int 1) (fun q => s.heap.size ≤ q) s s.heap ∧ va_Zq "jdk/internal/util/Preconditions" "SIOOBE_FORMATTER" "Ljava/util/function/BiFunction;" (fun q => s.heap.size ≤ q) s s.heap
theorem zB.y {D : xD} {st : Nat → Nat} {s U : State} (h : zB D st s) (hW : s.WarmedH U.vm) : yEn D U := by
  obtain ⟨h1, h2, h3, h4, -⟩ := h
  exact yEn.to (s := s) hW.alike (xNw_warm hW) ⟨h1, h2, h3, h4⟩
theorem zB.x {D : xD} {st : Nat → Nat} {s U : State} {E : xE} {off : xR → Nat} (h : zB D st s) {b : Nat} (hb : s.heap.size ≤ b) (hin : ∀ r r' : xR, xvr E r → xvr E r' → sad b off st r = sad b off st r' → r = r') (hW : s.WarmedH U.vm) (hh : ∀ q : Nat, q < s.heap.size → U.heap[q]? = s.heap[q]?) : xEn E D (sad b off st) U := by
  obtain ⟨h1, ⟨a1, a2, a3, a4, a5⟩, h3, h4, h5, adV, h6, h7, h8⟩ := h
  have hal := hW.alike
  have hown : ∀ q, xOwn E (sad b off st) q → s.heap.size ≤ q := by
    rintro q ⟨r, hr, rfl⟩
    unfold sad
    rw [if_neg hr.2]
    omega
  refine ⟨fun c q hq => u_Kn_moved hal (h1 c q hq), ⟨arrOfT_moved hal a1.1, arrOfT_moved hal a2.1, arrOfT_moved hal a3.1, arrOfT_moved hal a4.1, arrOfT_moved hal a5.1⟩, fun w hw => xNw_warm hW w hw (h3 w hw), fun q hq => ?_, hin, adV, ?_, ?_, ?_⟩
  · have : sad b off st (99, q.2.2.2) = st q.2.2.2 := by unfold sad; rw [if_pos rfl]
    rw [this]
    exact vk_R.warm hW (h5 q hq)
  · have e : (fun k => sad b off st (99, k)) = st := funext fun k => by unfold sad; rw [if_pos rfl]
    rw [e]
    exact ((vk_S.moved hal h6).narrow hown).kept (fun a ha _ => hh a ha)
  · exact ((va_Z.moved hal h7).narrow hown).kept (fun a ha _ => hh a ha)
  · exact ((va_Zq.moved hal h8).narrow hown).kept (fun a ha _ => hh a ha)
abbrev zG : List Cond := flatC (Jvm.Cond.and given_1 narrow_1)
theorem zg_ex : ∀ i, i < 10 → Cond.exactly (ztm i) "java/lang/String" ∈ zG := by decide +kernel
theorem zg_co : ∀ i, i < 10 → Cond.eq (.field (ztm i) "java/lang/String" "coder" "B") (.int 0) ∈ zG := by decide +kernel
theorem zg_ar : ∀ i, i < 10 → Cond.arrayOf (.field (ztm i) "java/lang/String" "value" "[B") .byte ∈ zG := by decide +kernel
theorem zg_le : ∀ i, i < 10 → Cond.eq (.length (.field (ztm i) "java/lang/String" "value" "[B")) (.int (Int32.ofNat (xSl.getD i 0))) ∈ zG := by decide +kernel
theorem zg_el : ∀ i, i < 10 → ∀ j, j < xSl.getD i 0 → Cond.eq (.elem (.field (ztm i) "java/lang/String" "value" "[B") (.int (Int32.ofNat j))) (.int ((xSb.getD i []).getD j 0)) ∈ zG := by decide +kernel
theorem zg_ne : ∀ i, i < 10 → ∀ j, j < 10 → i ≠ j → Cond.not (Cond.eq (ztm i) (ztm j)) ∈ zG ∨ Cond.not (Cond.eq (ztm j) (ztm i)) ∈ zG := by decide +kernel
theorem zg_eq : ∀ i, i < 10 → Cond.eq (ztm i) (.string RX12 (zuL.getD i 0)) ∈ zG := by decide +kernel
theorem zg_cs : Cond.eq (.static "java/lang/String" "COMPACT_STRINGS" "Z") (.int 1) ∈ zG := by decide +kernel
theorem zg_fm : Cond.isRef (.static "jdk/internal/util/Preconditions" "SIOOBE_FORMATTER" "Ljava/util/function/BiFunction;") ∈ zG := by decide +kernel
-- GENERATED BEHIND
theorem xq1 {w : Cond} (h : w ∈ tables_1_1) : w ∈ lw_tbl := List.mem_append_right _ (show w ∈ tables_1 from List.mem_append_left _ h)
theorem xq2 {w : Cond} (h : w ∈ tables_1_2) : w ∈ lw_tbl := List.mem_append_right _ (show w ∈ tables_1 from List.mem_append_right _ (List.mem_append_left _ h))
theorem xq3 {w : Cond} (h : w ∈ tables_1_3) : w ∈ lw_tbl := List.mem_append_right _ (show w ∈ tables_1 from List.mem_append_right _ (List.mem_append_right _ (List.mem_append_left _ h)))
theorem xq4 {w : Cond} (h : w ∈ tables_1_4) : w ∈ lw_tbl := List.mem_append_right _ (show w ∈ tables_1 from List.mem_append_right _ (List.mem_append_right _ (List.mem_append_right _ (List.mem_append_left _ h))))
theorem xq5 {w : Cond} (h : w ∈ tables_1_5) : w ∈ lw_tbl := List.mem_append_right _ (show w ∈ tables_1 from List.mem_append_right _ (List.mem_append_right _ (List.mem_append_right _ (List.mem_append_right _ (List.mem_append_left _ h)))))
theorem xq6 {w : Cond} (h : w ∈ tables_1_6) : w ∈ lw_tbl := List.mem_append_right _ (show w ∈ tables_1 from List.mem_append_right _ (List.mem_append_right _ (List.mem_append_right _ (List.mem_append_right _ (List.mem_append_right _ (List.mem_append_left _ h))))))
theorem xq7 {w : Cond} (h : w ∈ tables_1_7) : w ∈ lw_tbl := List.mem_append_right _ (show w ∈ tables_1 from List.mem_append_right _ (List.mem_append_right _ (List.mem_append_right _ (List.mem_append_right _ (List.mem_append_right _ (List.mem_append_right _ (List.mem_append_left _ h)))))))
theorem xq8 {w : Cond} (h : w ∈ tables_1_8) : w ∈ lw_tbl := List.mem_append_right _ (show w ∈ tables_1 from List.mem_append_right _ (List.mem_append_right _ (List.mem_append_right _ (List.mem_append_right _ (List.mem_append_right _ (List.mem_append_right _ (List.mem_append_right _ (List.mem_append_left _ h))))))))
theorem xq9 {w : Cond} (h : w ∈ tables_1_9) : w ∈ lw_tbl := List.mem_append_right _ (show w ∈ tables_1 from List.mem_append_right _ (List.mem_append_right _ (List.mem_append_right _ (List.mem_append_right _ (List.mem_append_right _ (List.mem_append_right _ (List.mem_append_right _ (List.mem_append_right _ (h)))))))))
theorem zn_in : ∀ w ∈ xNw, w ∈ lw_tbl := List.forall_mem_cons.mpr ⟨(xq1 (List.mem_of_getElem? (i := 110) rfl)), List.forall_mem_cons.mpr ⟨(xq1 (List.mem_of_getElem? (i := 111) rfl)), List.forall_mem_cons.mpr ⟨(xq1 (List.mem_of_getElem? (i := 109) rfl)), List.forall_mem_cons.mpr ⟨(xq1 (List.mem_of_getElem? (i := 32) rfl)), List.forall_mem_cons.mpr ⟨(xq2 (List.mem_of_getElem? (i := 170) rfl)), List.forall_mem_cons.mpr ⟨(xq2 (List.mem_of_getElem? (i := 14) rfl)), List.forall_mem_cons.mpr ⟨(xq4 (List.mem_of_getElem? (i := 147) rfl)), List.forall_mem_cons.mpr ⟨(xq4 (List.mem_of_getElem? (i := 156) rfl)), List.forall_mem_cons.mpr ⟨(xq6 (List.mem_of_getElem? (i := 8) rfl)), List.forall_mem_cons.mpr ⟨(xq4 (List.mem_of_getElem? (i := 239) rfl)), List.forall_mem_cons.mpr ⟨(xq5 (List.mem_of_getElem? (i := 0) rfl)), List.forall_mem_cons.mpr ⟨(xq5 (List.mem_of_getElem? (i := 1) rfl)), List.forall_mem_cons.mpr ⟨(xq4 (List.mem_of_getElem? (i := 210) rfl)), List.forall_mem_cons.mpr ⟨(xq4 (List.mem_of_getElem? (i := 220) rfl)), List.forall_mem_cons.mpr ⟨(xq4 (List.mem_of_getElem? (i := 221) rfl)), List.forall_mem_cons.mpr ⟨(xq5 (List.mem_of_getElem? (i := 201) rfl)), List.forall_mem_cons.mpr ⟨(xq5 (List.mem_of_getElem? (i := 202) rfl)), List.forall_mem_cons.mpr ⟨(xq1 (List.mem_of_getElem? (i := 172) rfl)), List.forall_mem_cons.mpr ⟨(xq6 (List.mem_of_getElem? (i := 52) rfl)), List.forall_mem_cons.mpr ⟨(xq1 (List.mem_of_getElem? (i := 78) rfl)), List.forall_mem_cons.mpr ⟨(xq4 (List.mem_of_getElem? (i := 89) rfl)), List.forall_mem_cons.mpr ⟨(xq3 (List.mem_of_getElem? (i := 194) rfl)), List.forall_mem_cons.mpr ⟨(xq3 (List.mem_of_getElem? (i := 197) rfl)), List.forall_mem_cons.mpr ⟨(xq2 (List.mem_of_getElem? (i := 87) rfl)), List.forall_mem_cons.mpr ⟨(xq5 (List.mem_of_getElem? (i := 121) rfl)), List.forall_mem_cons.mpr ⟨(xq5 (List.mem_of_getElem? (i := 122) rfl)), List.forall_mem_cons.mpr ⟨(xq1 (List.mem_of_getElem? (i := 146) rfl)), List.forall_mem_cons.mpr ⟨(xq5 (List.mem_of_getElem? (i := 71) rfl)), List.forall_mem_cons.mpr ⟨(xq1 (List.mem_of_getElem? (i := 224) rfl)), fun _ h => absurd h List.not_mem_nil⟩⟩⟩⟩⟩⟩⟩⟩⟩⟩⟩⟩⟩⟩⟩⟩⟩⟩⟩⟩⟩⟩⟩⟩⟩⟩⟩⟩⟩
theorem zs_in : ∀ q ∈ xSt, Cond.stringRef q.1 q.2.1 q.2.2.1 ∈ lw_tbl := List.forall_mem_cons.mpr ⟨(xq3 (List.mem_of_getElem? (i := 35) rfl)), List.forall_mem_cons.mpr ⟨(xq3 (List.mem_of_getElem? (i := 105) rfl)), List.forall_mem_cons.mpr ⟨(xq3 (List.mem_of_getElem? (i := 106) rfl)), List.forall_mem_cons.mpr ⟨(xq6 (List.mem_of_getElem? (i := 30) rfl)), List.forall_mem_cons.mpr ⟨(xq3 (List.mem_of_getElem? (i := 111) rfl)), List.forall_mem_cons.mpr ⟨(xq3 (List.mem_of_getElem? (i := 113) rfl)), List.forall_mem_cons.mpr ⟨(xq3 (List.mem_of_getElem? (i := 114) rfl)), List.forall_mem_cons.mpr ⟨(xq3 (List.mem_of_getElem? (i := 115) rfl)), List.forall_mem_cons.mpr ⟨(xq3 (List.mem_of_getElem? (i := 116) rfl)), List.forall_mem_cons.mpr ⟨(xq3 (List.mem_of_getElem? (i := 117) rfl)), List.forall_mem_cons.mpr ⟨(xq7 (List.mem_of_getElem? (i := 206) rfl)), List.forall_mem_cons.mpr ⟨(xq7 (List.mem_of_getElem? (i := 213) rfl)), List.forall_mem_cons.mpr ⟨(xq7 (List.mem_of_getElem? (i := 214) rfl)), List.forall_mem_cons.mpr ⟨(xq7 (List.mem_of_getElem? (i := 215) rfl)), List.forall_mem_cons.mpr ⟨(xq7 (List.mem_of_getElem? (i := 216) rfl)), List.forall_mem_cons.mpr ⟨(xq7 (List.mem_of_getElem? (i := 217) rfl)), List.forall_mem_cons.mpr ⟨(xq7 (List.mem_of_getElem? (i := 218) rfl)), List.forall_mem_cons.mpr ⟨(xq7 (List.mem_of_getElem? (i := 219) rfl)), List.forall_mem_cons.mpr ⟨(xq7 (List.mem_of_getElem? (i := 220) rfl)), List.forall_mem_cons.mpr ⟨(xq7 (List.mem_of_getElem? (i := 221) rfl)), fun _ h => absurd h List.not_mem_nil⟩⟩⟩⟩⟩⟩⟩⟩⟩⟩⟩⟩⟩⟩⟩⟩⟩⟩⟩⟩
theorem zi_in : ∀ (ci : Nat) (C : String) (T : u_T) (N : Nat), vwCl[ci]? = some (C, T, N) → Cond.instantiable C N ∈ lw_tbl := by
  intro ci C T N h
  match ci, h with
  | 0, h => cases h; exact (xq2 (List.mem_of_getElem? (i := 8) rfl))
  | 1, h => cases h; exact (xq2 (List.mem_of_getElem? (i := 126) rfl))
  | 2, h => cases h; exact (xq2 (List.mem_of_getElem? (i := 41) rfl))
  | 3, h => cases h; exact (xq1 (List.mem_of_getElem? (i := 171) rfl))
  | 4, h => cases h; exact (xq1 (List.mem_of_getElem? (i := 165) rfl))
  | 5, h => cases h; exact (xq1 (List.mem_of_getElem? (i := 71) rfl))
  | 6, h => cases h; exact (xq1 (List.mem_of_getElem? (i := 77) rfl))
  | 7, h => cases h; exact (xq2 (List.mem_of_getElem? (i := 81) rfl))
  | 8, h => cases h; exact (xq1 (List.mem_of_getElem? (i := 31) rfl))
  | 9, h => cases h; exact (xq1 (List.mem_of_getElem? (i := 138) rfl))
  | 10, h => cases h; exact (xq1 (List.mem_of_getElem? (i := 218) rfl))
  | 11, h => cases h; exact (xq1 (List.mem_of_getElem? (i := 23) rfl))
  | 12, h => cases h; exact (xq6 (List.mem_of_getElem? (i := 160) rfl))
  | n + 13, h => cases h
theorem zAr {args : Array Value} {s : State} {ty : FieldType} (hr : ∀ C, ty ≠ .object C) (h : (Cond.arrayClass ty).before args s = true) : ∃ c : ClassId, ArrOfT s c ty ∧ va_RA s c ty := by
  obtain ⟨c, k, comp, h1, h2, h3⟩ := Cond.arrayClass_spec h
  refine ⟨c, fun n z => ⟨fun k h => (by cases h), k, h2, comp, h3⟩, ?_⟩
  cases ty with
  | object C => exact absurd rfl (hr C)
  | _ => exact h1
theorem zB_of {args : Array Value} {s : State} (hts : ∀ w ∈ lw_tbl, w.before args s = true) (hgv : (Jvm.Cond.and given_1 narrow_1).before args s = true) : ∃ (D : xD) (st : Nat → Nat), zB D st s := by
  have hg := flat_of_before _ hgv
  have htx : ∀ w ∈ xTB, w.before args s = true := fun w hw => hts w (List.mem_filter.mp hw).1
  have hA : ∀ a : Nat, a < s.heap.size → ¬ (s.heap.size ≤ a) := fun a h => by omega
  have hcl : ∀ c : Nat, ∃ p : ClassId × (Nat → Nat), ∀ q : vw_C, vwCl[c]? = some q → u_Kn s q.1 q.2.1 q.2.2 p.1 p.2 := by
    intro c
    cases hc : vwCl[c]? with
    | none => exact ⟨(0, fun _ => 0), fun q h => by cases h⟩
    | some q =>
      obtain ⟨C, T, N⟩ := q
      obtain ⟨cC, iS, hK⟩ := u_known htx (xcg_ok c C T N hc).1 (hts _ (zi_in c C T N hc))
      exact ⟨(cC, iS), fun q h => by cases h; exact hK⟩
  obtain ⟨pp, hpp⟩ := Classical.axiomOfChoice hcl
  obtain ⟨c1, k1⟩ := zAr (fun C h => by cases h) (htx _ (yarr .int (by decide)))
  obtain ⟨c2, k2⟩ := zAr (fun C h => by cases h) (htx _ (yarr .long (by decide)))
  obtain ⟨c3, k3⟩ := zAr (fun C h => by cases h) (htx _ (yarr .byte (by decide)))
  obtain ⟨c4, k4⟩ := zAr (fun C h => by cases h) (htx _ (yarr .boolean (by decide)))
  have hao : (Cond.arrayOver (.object RX6)).before args s = true := hts _ (xq1 (List.mem_of_getElem? (i := 88) rfl))
  obtain ⟨comp, c5, k5, g1, -, g3, g4, g5⟩ := Cond.arrayOver_spec hao
  obtain ⟨adK, adV, hvk, hev⟩ := vk_Sof (tm := ztm) (len := xSl) (byt := xSb) (A := fun q => s.heap.size ≤ q) (N := 10) (by decide) (fun i hi => hg _ (zg_ex i hi)) (fun i hi => hg _ (zg_co i hi)) (fun i hi => hg _ (zg_ar i hi)) (fun i hi => hg _ (zg_le i hi)) (fun i hi j hj => hg _ (zg_el i hi j hj)) (fun i j hi hj hne => (zg_ne i hi j hj hne).imp (fun h => hg _ h) (fun h => hg _ h)) hA
  refine ⟨(fun c => (pp c).1, fun c => (pp c).2, fun c => match c with
    | 1 => c1
    | 2 => c2
    | 3 => c3
    | 4 => c4
    | _ => c5), adK, fun c q hq => hpp c q hq, ⟨k1, k2, k3, k4, ⟨fun n z => ⟨fun k h => (by cases h), k5, g3, comp, g4⟩, k5, comp, g3, g4, g1, g5⟩⟩, fun w hw => ?_, va_AO.of hao, fun q hq => ?_, adV, hvk, ?_, ?_⟩
  · have hw2 := hts w (zn_in w hw)
    simp only [xNw, List.mem_cons, List.not_mem_nil, or_false] at hw
    rcases hw with rfl | rfl | rfl | rfl | rfl | rfl | rfl | rfl | rfl | rfl | rfl | rfl | rfl | rfl | rfl | rfl | rfl | rfl | rfl | rfl | rfl | rfl | rfl | rfl | rfl | rfl | rfl | rfl | rfl <;> exact va_Nw.of rfl hw2
  · have h1 := hts _ (zs_in q hq)
    refine vk_R.of (A := args) h1 ?_
    have key : ∀ i, i < 10 → (ztm i).eval args s none [] s = some (.ref (adK i)) ∧ (Term.string RX12 (zuL.getD i 0)).eval args s none [] s = some (.ref (adK i)) := fun i hi => by
      refine ⟨hev i hi, ?_⟩
      obtain ⟨y, e1, e2⟩ := Cond.eq_one (show (Cond.eq (ztm i) (.string RX12 (zuL.getD i 0))).holds args s none s [] = true from hg _ (zg_eq i hi))
      rw [hev i hi] at e1
      rw [e2, ← e1]
    simp only [xSt, List.mem_cons, List.not_mem_nil, or_false] at hq
    rcases hq with rfl | rfl | rfl | rfl | rfl | rfl | rfl | rfl | rfl | rfl | rfl | rfl | rfl | rfl | rfl | rfl | rfl | rfl | rfl | rfl
    · exact (key 0 (by decide)).1
    · exact (key 1 (by decide)).1
    · exact (key 2 (by decide)).1
    · exact (key 3 (by decide)).1
    · exact (key 4 (by decide)).1
    · exact (key 5 (by decide)).1
    · exact (key 6 (by decide)).1
    · exact (key 7 (by decide)).1
    · exact (key 8 (by decide)).1
    · exact (key 9 (by decide)).1
    · exact (key 0 (by decide)).2
    · exact (key 1 (by decide)).2
    · exact (key 2 (by decide)).2
    · exact (key 3 (by decide)).2
    · exact (key 4 (by decide)).2
    · exact (key 5 (by decide)).2
    · exact (key 6 (by decide)).2
    · exact (key 7 (by decide)).2
    · exact (key 8 (by decide)).2
    · exact (key 9 (by decide)).2
  · exact va_Zof (hts _ (xq3 (List.mem_of_getElem? (i := 49) rfl))) (hts _ (xq1 (List.mem_of_getElem? (i := 15) rfl))) (va_eqi (hg _ zg_cs)) hA
  · exact va_Zqof (hts _ (xq3 (List.mem_of_getElem? (i := 65) rfl))) (hts _ (xq1 (List.mem_of_getElem? (i := 17) rfl))) (hg _ zg_fm) hA
