theorem wcX2_fill : Cond.code yX2_fill cX2_fill 5 none ∈ xTB := (xt4 (List.mem_of_getElem? (i := 208) rfl) rfl)
theorem wiX2_fill : Cond.instanceMethod yX2_fill ∈ xTB := (xt4 (List.mem_of_getElem? (i := 206) rfl) rfl)
theorem weX2_fill : Cond.selects RX2 yX2_fill yX2_fill ∈ xTB := (xt4 (List.mem_of_getElem? (i := 207) rfl) rfl)
theorem foX2_25 : xfo RX2 (25, 2, 4, 3) := ⟨RX2, TX2, 9, rfl, by decide, Or.inl (xt2 (List.mem_of_getElem? (i := 55) rfl) rfl), rfl, rfl, fun h => rfl⟩
theorem foX2_32 : xfo RX2 (32, 2, 6, 2) := ⟨RX2, TX2, 9, rfl, by decide, Or.inl (xt2 (List.mem_of_getElem? (i := 58) rfl) rfl), rfl, rfl, fun h => absurd rfl h⟩
set_option maxRecDepth 100000 in
theorem kX2_fill {D : xD} : xC eX D yX2_fill cX2_fill 5 none 4 fX2_fill := xmet (own := RX2) xGl_ok xEcX_ok (by decide) rfl rk_0 (by decide +kernel) (List.forall_mem_cons.mpr ⟨foX2_9, List.forall_mem_cons.mpr ⟨foX2_15, List.forall_mem_cons.mpr ⟨foX2_25, List.forall_mem_cons.mpr ⟨foX2_32, fun _ h => absurd h List.not_mem_nil⟩⟩⟩⟩) (List.forall_mem_cons.mpr ⟨xco_V xEcX_ok kX5_whole ⟨by decide, by decide⟩ rfl rfl (xt4 (List.mem_of_getElem? (i := 209) rfl) rfl) wiX5_whole weX5_whole xinX5 wcX5_whole (by decide +kernel), List.forall_mem_cons.mpr ⟨xco_N kX11_isOne ⟨by decide, by decide⟩ (List.mem_of_getElem? (i := 12) rfl) wiX11_isOne xinX11 wcX11_isOne (by decide +kernel), List.forall_mem_cons.mpr ⟨xco_S kX2_holdsAllOrNone ⟨by decide, by decide⟩ (xt4 (List.mem_of_getElem? (i := 213) rfl) rfl) wiX2_holdsAllOrNone xinX2 wcX2_holdsAllOrNone (by decide +kernel), List.forall_mem_cons.mpr ⟨xco_V xEcX_ok kX2_fillHeap ⟨by decide, by decide⟩ rfl rfl (xt4 (List.mem_of_getElem? (i := 216) rfl) rfl) wiX2_fillHeap weX2_fillHeap xinX2 wcX2_fillHeap (by decide +kernel), fun _ h => absurd h List.not_mem_nil⟩⟩⟩⟩)
theorem wcX2_ofWhole : Cond.code yX2_ofWhole cX2_ofWhole 3 (some .long) ∈ xTB := (xt5 (List.mem_of_getElem? (i := 53) rfl) rfl)
theorem wiX2_ofWhole : Cond.instanceMethod yX2_ofWhole ∈ xTB := (xt5 (List.mem_of_getElem? (i := 51) rfl) rfl)
theorem weX2_ofWhole : Cond.selects RX2 yX2_ofWhole yX2_ofWhole ∈ xTB := (xt5 (List.mem_of_getElem? (i := 52) rfl) rfl)
set_option maxRecDepth 100000 in
theorem kX2_ofWhole {D : xD} : xC eX D yX2_ofWhole cX2_ofWhole 3 (some .long) 2 fX2_ofWhole := xmet (own := RX2) xGl_ok xEcX_ok (by decide) rfl rk_3 (by decide +kernel) (List.forall_mem_cons.mpr ⟨foX2_9, List.forall_mem_cons.mpr ⟨foX2_15, List.forall_mem_cons.mpr ⟨foX2_32, fun _ h => absurd h List.not_mem_nil⟩⟩⟩) (List.forall_mem_cons.mpr ⟨xco_V xEcX_ok kX5_whole ⟨by decide, by decide⟩ rfl rfl (xt4 (List.mem_of_getElem? (i := 209) rfl) rfl) wiX5_whole weX5_whole xinX5 wcX5_whole (by decide +kernel), fun _ h => absurd h List.not_mem_nil⟩)
theorem wcX2_planHeap : Cond.code yX2_planHeap cX2_planHeap 6 (some .int) ∈ xTB := (xt5 (List.mem_of_getElem? (i := 49) rfl) rfl)
theorem wiX2_planHeap : Cond.instanceMethod yX2_planHeap ∈ xTB := (xt5 (List.mem_of_getElem? (i := 47) rfl) rfl)
theorem weX2_planHeap : Cond.selects RX2 yX2_planHeap yX2_planHeap ∈ xTB := (xt5 (List.mem_of_getElem? (i := 48) rfl) rfl)
theorem foX2_29 : xfo RX2 (29, 2, 5, 2) := ⟨RX2, TX2, 9, rfl, by decide, Or.inl (xt2 (List.mem_of_getElem? (i := 57) rfl) rfl), rfl, rfl, fun h => absurd rfl h⟩
set_option maxRecDepth 100000 in
theorem kX2_planHeap {D : xD} : xC eX D yX2_planHeap cX2_planHeap 6 (some .int) 3 fX2_planHeap := xmet (own := RX2) xGl_ok xEcX_ok (by decide) rfl rk_1 (by decide +kernel) (List.forall_mem_cons.mpr ⟨foX2_19, List.forall_mem_cons.mpr ⟨foX2_29, List.forall_mem_cons.mpr ⟨foX2_32, fun _ h => absurd h List.not_mem_nil⟩⟩⟩) (List.forall_mem_cons.mpr ⟨xco_V xEcX_ok kX2_ofWhole ⟨by decide, by decide⟩ rfl rfl (xt5 (List.mem_of_getElem? (i := 50) rfl) rfl) wiX2_ofWhole weX2_ofWhole xinX2 wcX2_ofWhole (by decide +kernel), List.forall_mem_cons.mpr ⟨xco_V xEcX_ok kX5_whole ⟨by decide, by decide⟩ rfl rfl (xt4 (List.mem_of_getElem? (i := 209) rfl) rfl) wiX5_whole weX5_whole xinX5 wcX5_whole (by decide +kernel), List.forall_mem_cons.mpr ⟨xco_N kX11_isOne ⟨by decide, by decide⟩ (List.mem_of_getElem? (i := 12) rfl) wiX11_isOne xinX11 wcX11_isOne (by decide +kernel), fun _ h => absurd h List.not_mem_nil⟩⟩⟩)
theorem wcX3_gather : Cond.code yX3_gather cX3_gather 3 none ∈ xTB := (xt3 (List.mem_of_getElem? (i := 208) rfl) rfl)
theorem wiX3_gather : Cond.instanceMethod yX3_gather ∈ xTB := (xt3 (List.mem_of_getElem? (i := 206) rfl) rfl)
theorem weX3_gather : Cond.selects RX3 yX3_gather yX3_gather ∈ xTB := (xt3 (List.mem_of_getElem? (i := 207) rfl) rfl)
theorem foX3_9 : xfo RX3 (9, 3, 0, 2) := ⟨RX3, TX3, 2, rfl, by decide, Or.inl (xt1 (List.mem_of_getElem? (i := 176) rfl) rfl), rfl, rfl, fun h => absurd rfl h⟩
theorem foX3_15 : xfo RX3 (15, 3, 1, 0) := ⟨RX3, TX3, 2, rfl, by decide, Or.inl (xt1 (List.mem_of_getElem? (i := 178) rfl) rfl), rfl, rfl, fun h => rfl⟩
set_option maxRecDepth 100000 in
theorem kX3_gather {D : xD} : xC eX D yX3_gather cX3_gather 3 none 1 fX3_gather := xmet (own := RX3) xGl_ok xEcX_ok (by decide) rfl rk_0 (by decide +kernel) (List.forall_mem_cons.mpr ⟨foX3_9, List.forall_mem_cons.mpr ⟨foX3_15, fun _ h => absurd h List.not_mem_nil⟩⟩) (fun _ h => absurd h List.not_mem_nil)
theorem wcX11_leastOf : Cond.code yX11_leastOf cX11_leastOf 2 (some .int) ∈ xTB := (xt5 (List.mem_of_getElem? (i := 73) rfl) rfl)
theorem wiX11_leastOf : Cond.static yX11_leastOf ∈ xTB := (xt5 (List.mem_of_getElem? (i := 72) rfl) rfl)
set_option maxRecDepth 100000 in
theorem kX11_leastOf {D : xD} : xC eX D yX11_leastOf cX11_leastOf 2 (some .int) 1 fX11_leastOf := xmet (own := RX11) xGl_ok xEcX_ok (by decide) rfl rk_1 (by decide +kernel) (fun _ h => absurd h List.not_mem_nil) (fun _ h => absurd h List.not_mem_nil)
theorem wcX3_heapAround : Cond.code yX3_heapAround cX3_heapAround 4 (some .int) ∈ xTB := (xt5 (List.mem_of_getElem? (i := 200) rfl) rfl)
theorem wiX3_heapAround : Cond.instanceMethod yX3_heapAround ∈ xTB := (xt5 (List.mem_of_getElem? (i := 198) rfl) rfl)
theorem weX3_heapAround : Cond.selects RX3 yX3_heapAround yX3_heapAround ∈ xTB := (xt5 (List.mem_of_getElem? (i := 199) rfl) rfl)
set_option maxRecDepth 100000 in
theorem kX3_heapAround {D : xD} : xC eX D yX3_heapAround cX3_heapAround 4 (some .int) 2 fX3_heapAround := xmet (own := RX3) xGl_ok xEcX_ok (by decide) rfl rk_1 (by decide +kernel) (List.forall_mem_cons.mpr ⟨foX3_9, fun _ h => absurd h List.not_mem_nil⟩) (List.forall_mem_cons.mpr ⟨xco_N kX11_leastOf ⟨by decide, by decide⟩ (List.mem_of_getElem? (i := 15) rfl) wiX11_leastOf xinX11 wcX11_leastOf (by decide +kernel), List.forall_mem_cons.mpr ⟨xco_N kX11_within ⟨by decide, by decide⟩ (List.mem_of_getElem? (i := 16) rfl) wiX11_within xinX11 wcX11_within (by decide +kernel), fun _ h => absurd h List.not_mem_nil⟩⟩)
theorem wcX3_divide : Cond.code yX3_divide cX3_divide 4 none ∈ xTB := (xt5 (List.mem_of_getElem? (i := 206) rfl) rfl)
theorem wiX3_divide : Cond.instanceMethod yX3_divide ∈ xTB := (xt5 (List.mem_of_getElem? (i := 204) rfl) rfl)
theorem weX3_divide : Cond.selects RX3 yX3_divide yX3_divide ∈ xTB := (xt5 (List.mem_of_getElem? (i := 205) rfl) rfl)
set_option maxRecDepth 100000 in
theorem kX3_divide {D : xD} : xC eX D yX3_divide cX3_divide 4 none 1 fX3_divide := xmet (own := RX3) xGl_ok xEcX_ok (by decide) rfl rk_0 (by decide +kernel) (List.forall_mem_cons.mpr ⟨foX3_9, List.forall_mem_cons.mpr ⟨foX3_15, fun _ h => absurd h List.not_mem_nil⟩⟩) (fun _ h => absurd h List.not_mem_nil)
theorem wcX4_forget : Cond.code yX4_forget cX4_forget 1 none ∈ xTB := (xt3 (List.mem_of_getElem? (i := 212) rfl) rfl)
theorem wiX4_forget : Cond.instanceMethod yX4_forget ∈ xTB := (xt3 (List.mem_of_getElem? (i := 210) rfl) rfl)
theorem weX4_forget : Cond.selects RX4 yX4_forget yX4_forget ∈ xTB := (xt3 (List.mem_of_getElem? (i := 211) rfl) rfl)
theorem foX4_29 : xfo RX4 (29, 4, 6, 0) := ⟨RX4, TX4, 10, rfl, by decide, Or.inl (xt1 (List.mem_of_getElem? (i := 191) rfl) rfl), rfl, rfl, fun h => rfl⟩
set_option maxRecDepth 100000 in
theorem kX4_forget {D : xD} : xC eX D yX4_forget cX4_forget 1 none 1 fX4_forget := xmet (own := RX4) xGl_ok xEcX_ok (by decide) rfl rk_0 (by decide +kernel) (List.forall_mem_cons.mpr ⟨foX4_29, fun _ h => absurd h List.not_mem_nil⟩) (fun _ h => absurd h List.not_mem_nil)
theorem wcX8_isBlank : Cond.code yX8_isBlank cX8_isBlank 1 (some .boolean) ∈ xTB := (xt3 (List.mem_of_getElem? (i := 20) rfl) rfl)
theorem wiX8_isBlank : Cond.static yX8_isBlank ∈ xTB := (xt3 (List.mem_of_getElem? (i := 19) rfl) rfl)
set_option maxRecDepth 100000 in
theorem kX8_isBlank {D : xD} : xC eX D yX8_isBlank cX8_isBlank 1 (some .boolean) 1 fX8_isBlank := xmet (own := RX8) xGl_ok xEcX_ok (by decide) rfl rk_2 (by decide +kernel) (fun _ h => absurd h List.not_mem_nil) (fun _ h => absurd h List.not_mem_nil)
theorem wcX8_isLetter : Cond.code yX8_isLetter cX8_isLetter 1 (some .boolean) ∈ xTB := (xt3 (List.mem_of_getElem? (i := 23) rfl) rfl)
theorem wiX8_isLetter : Cond.static yX8_isLetter ∈ xTB := (xt3 (List.mem_of_getElem? (i := 22) rfl) rfl)
set_option maxRecDepth 100000 in
theorem kX8_isLetter {D : xD} : xC eX D yX8_isLetter cX8_isLetter 1 (some .boolean) 1 fX8_isLetter := xmet (own := RX8) xGl_ok xEcX_ok (by decide) rfl rk_2 (by decide +kernel) (fun _ h => absurd h List.not_mem_nil) (fun _ h => absurd h List.not_mem_nil)
theorem wcX8_takeWord : Cond.code yX8_takeWord cX8_takeWord 1 none ∈ xTB := (xt3 (List.mem_of_getElem? (i := 27) rfl) rfl)
theorem wiX8_takeWord : Cond.instanceMethod yX8_takeWord ∈ xTB := (xt3 (List.mem_of_getElem? (i := 26) rfl) rfl)
theorem weX8_takeWord : Cond.selects RX8 yX8_takeWord yX8_takeWord ∈ xTB := xp1 (q := (yX8_takeWord, 8)) (List.mem_of_getElem? (i := 0) rfl)
theorem foX8_9 : xfo RX8 (9, 8, 0, 2) := ⟨RX8, TX8, 8, rfl, by decide, Or.inl (xt1 (List.mem_of_getElem? (i := 36) rfl) rfl), rfl, rfl, fun h => absurd rfl h⟩
theorem foX8_15 : xfo RX8 (15, 8, 1, 0) := ⟨RX8, TX8, 8, rfl, by decide, Or.inl (xt1 (List.mem_of_getElem? (i := 37) rfl) rfl), rfl, rfl, fun h => rfl⟩
theorem foX8_25 : xfo RX8 (25, 8, 4, 0) := ⟨RX8, TX8, 8, rfl, by decide, Or.inl (xt1 (List.mem_of_getElem? (i := 43) rfl) rfl), rfl, rfl, fun h => rfl⟩
theorem foX8_28 : xfo RX8 (28, 8, 5, 0) := ⟨RX8, TX8, 8, rfl, by decide, Or.inl (xt1 (List.mem_of_getElem? (i := 46) rfl) rfl), rfl, rfl, fun h => rfl⟩
theorem foX8_31 : xfo RX8 (31, 8, 6, 0) := ⟨RX8, TX8, 8, rfl, by decide, Or.inl (xt1 (List.mem_of_getElem? (i := 48) rfl) rfl), rfl, rfl, fun h => rfl⟩
theorem foX8_34 : xfo RX8 (34, 8, 7, 0) := ⟨RX8, TX8, 8, rfl, by decide, Or.inl (xt1 (List.mem_of_getElem? (i := 51) rfl) rfl), rfl, rfl, fun h => rfl⟩
set_option maxRecDepth 100000 in
theorem kX8_takeWord {D : xD} : xC eX D yX8_takeWord cX8_takeWord 1 none 2 fX8_takeWord := xmet (own := RX8) xGl_ok xEcX_ok (by decide) rfl rk_0 (by decide +kernel) (List.forall_mem_cons.mpr ⟨foX8_9, List.forall_mem_cons.mpr ⟨foX8_15, List.forall_mem_cons.mpr ⟨foX8_25, List.forall_mem_cons.mpr ⟨foX8_28, List.forall_mem_cons.mpr ⟨foX8_31, List.forall_mem_cons.mpr ⟨foX8_34, fun _ h => absurd h List.not_mem_nil⟩⟩⟩⟩⟩⟩) (List.forall_mem_cons.mpr ⟨xco_S kX8_isLetter ⟨by decide, by decide⟩ (xt3 (List.mem_of_getElem? (i := 21) rfl) rfl) wiX8_isLetter xinX8 wcX8_isLetter (by decide +kernel), fun _ h => absurd h List.not_mem_nil⟩)
theorem wcX8_isDigit : Cond.code yX8_isDigit cX8_isDigit 1 (some .boolean) ∈ xTB := (xt3 (List.mem_of_getElem? (i := 30) rfl) rfl)
theorem wiX8_isDigit : Cond.static yX8_isDigit ∈ xTB := (xt3 (List.mem_of_getElem? (i := 29) rfl) rfl)
set_option maxRecDepth 100000 in
theorem kX8_isDigit {D : xD} : xC eX D yX8_isDigit cX8_isDigit 1 (some .boolean) 1 fX8_isDigit := xmet (own := RX8) xGl_ok xEcX_ok (by decide) rfl rk_2 (by decide +kernel) (fun _ h => absurd h List.not_mem_nil) (fun _ h => absurd h List.not_mem_nil)
theorem wcX8_takeNumber : Cond.code yX8_takeNumber cX8_takeNumber 1 none ∈ xTB := (xt3 (List.mem_of_getElem? (i := 34) rfl) rfl)
theorem wiX8_takeNumber : Cond.instanceMethod yX8_takeNumber ∈ xTB := (xt3 (List.mem_of_getElem? (i := 33) rfl) rfl)
theorem weX8_takeNumber : Cond.selects RX8 yX8_takeNumber yX8_takeNumber ∈ xTB := xp1 (q := (yX8_takeNumber, 8)) (List.mem_of_getElem? (i := 1) rfl)
set_option maxRecDepth 100000 in
theorem kX8_takeNumber {D : xD} : xC eX D yX8_takeNumber cX8_takeNumber 1 none 2 fX8_takeNumber := xmet (own := RX8) xGl_ok xEcX_ok (by decide) rfl rk_0 (by decide +kernel) (List.forall_mem_cons.mpr ⟨foX8_9, List.forall_mem_cons.mpr ⟨foX8_15, List.forall_mem_cons.mpr ⟨foX8_25, List.forall_mem_cons.mpr ⟨foX8_28, List.forall_mem_cons.mpr ⟨foX8_31, List.forall_mem_cons.mpr ⟨foX8_34, fun _ h => absurd h List.not_mem_nil⟩⟩⟩⟩⟩⟩) (List.forall_mem_cons.mpr ⟨xco_S kX8_isDigit ⟨by decide, by decide⟩ (xt3 (List.mem_of_getElem? (i := 28) rfl) rfl) wiX8_isDigit xinX8 wcX8_isDigit (by decide +kernel), fun _ h => absurd h List.not_mem_nil⟩)
theorem wcX8_advance : Cond.code yX8_advance cX8_advance 1 none ∈ xTB := (xt3 (List.mem_of_getElem? (i := 17) rfl) rfl)
theorem wiX8_advance : Cond.instanceMethod yX8_advance ∈ xTB := (xt3 (List.mem_of_getElem? (i := 15) rfl) rfl)
theorem weX8_advance : Cond.selects RX8 yX8_advance yX8_advance ∈ xTB := (xt3 (List.mem_of_getElem? (i := 16) rfl) rfl)
set_option maxRecDepth 100000 in
theorem kX8_advance {D : xD} : xC eX D yX8_advance cX8_advance 1 none 3 fX8_advance := xmet (own := RX8) xGl_ok xEcX_ok (by decide) rfl rk_0 (by decide +kernel) (List.forall_mem_cons.mpr ⟨foX8_9, List.forall_mem_cons.mpr ⟨foX8_15, List.forall_mem_cons.mpr ⟨foX8_25, List.forall_mem_cons.mpr ⟨foX8_28, List.forall_mem_cons.mpr ⟨foX8_34, fun _ h => absurd h List.not_mem_nil⟩⟩⟩⟩⟩) (List.forall_mem_cons.mpr ⟨xco_S kX8_isBlank ⟨by decide, by decide⟩ (xt3 (List.mem_of_getElem? (i := 18) rfl) rfl) wiX8_isBlank xinX8 wcX8_isBlank (by decide +kernel), List.forall_mem_cons.mpr ⟨xco_S kX8_isLetter ⟨by decide, by decide⟩ (xt3 (List.mem_of_getElem? (i := 21) rfl) rfl) wiX8_isLetter xinX8 wcX8_isLetter (by decide +kernel), List.forall_mem_cons.mpr ⟨xco_V xEcX_ok kX8_takeWord ⟨by decide, by decide⟩ rfl rfl (xt3 (List.mem_of_getElem? (i := 24) rfl) rfl) wiX8_takeWord weX8_takeWord xinX8 wcX8_takeWord (by decide +kernel), List.forall_mem_cons.mpr ⟨xco_S kX8_isDigit ⟨by decide, by decide⟩ (xt3 (List.mem_of_getElem? (i := 28) rfl) rfl) wiX8_isDigit xinX8 wcX8_isDigit (by decide +kernel), List.forall_mem_cons.mpr ⟨xco_V xEcX_ok kX8_takeNumber ⟨by decide, by decide⟩ rfl rfl (xt3 (List.mem_of_getElem? (i := 31) rfl) rfl) wiX8_takeNumber weX8_takeNumber xinX8 wcX8_takeNumber (by decide +kernel), fun _ h => absurd h List.not_mem_nil⟩⟩⟩⟩⟩)
theorem wcX8_rewind : Cond.code yX8_rewind cX8_rewind 1 none ∈ xTB := (xt3 (List.mem_of_getElem? (i := 13) rfl) rfl)
theorem wiX8_rewind : Cond.instanceMethod yX8_rewind ∈ xTB := (xt3 (List.mem_of_getElem? (i := 11) rfl) rfl)
theorem weX8_rewind : Cond.selects RX8 yX8_rewind yX8_rewind ∈ xTB := (xt3 (List.mem_of_getElem? (i := 12) rfl) rfl)
theorem foX8_19 : xfo RX8 (19, 8, 2, 0) := ⟨RX8, TX8, 8, rfl, by decide, Or.inl (xt1 (List.mem_of_getElem? (i := 39) rfl) rfl), rfl, rfl, fun h => rfl⟩
theorem foX8_22 : xfo RX8 (22, 8, 3, 0) := ⟨RX8, TX8, 8, rfl, by decide, Or.inl (xt1 (List.mem_of_getElem? (i := 41) rfl) rfl), rfl, rfl, fun h => rfl⟩
set_option maxRecDepth 100000 in
theorem kX8_rewind {D : xD} : xC eX D yX8_rewind cX8_rewind 1 none 4 fX8_rewind := xmet (own := RX8) xGl_ok xEcX_ok (by decide) rfl rk_0 (by decide +kernel) (List.forall_mem_cons.mpr ⟨foX8_19, List.forall_mem_cons.mpr ⟨foX8_22, List.forall_mem_cons.mpr ⟨foX8_34, fun _ h => absurd h List.not_mem_nil⟩⟩⟩) (List.forall_mem_cons.mpr ⟨xco_V xEcX_ok kX8_advance ⟨by decide, by decide⟩ rfl rfl (xt3 (List.mem_of_getElem? (i := 14) rfl) rfl) wiX8_advance weX8_advance xinX8 wcX8_advance (by decide +kernel), fun _ h => absurd h List.not_mem_nil⟩)
theorem wcX8_says : Cond.code yX8_says cX8_says 3 (some .boolean) ∈ xTB := (xt3 (List.mem_of_getElem? (i := 39) rfl) rfl)
theorem wiX8_says : Cond.instanceMethod yX8_says ∈ xTB := (xt3 (List.mem_of_getElem? (i := 37) rfl) rfl)
theorem weX8_says : Cond.selects RX8 yX8_says yX8_says ∈ xTB := (xt3 (List.mem_of_getElem? (i := 38) rfl) rfl)
set_option maxRecDepth 100000 in
theorem kX8_says {D : xD} : xC eX D yX8_says cX8_says 3 (some .boolean) 7 fX8_says := xmet (own := RX8) xGl_ok xEcX_ok (by decide) rfl rk_2 (by decide +kernel) (List.forall_mem_cons.mpr ⟨foX8_9, List.forall_mem_cons.mpr ⟨foX8_15, List.forall_mem_cons.mpr ⟨foX8_25, List.forall_mem_cons.mpr ⟨foX8_28, List.forall_mem_cons.mpr ⟨foX8_34, fun _ h => absurd h List.not_mem_nil⟩⟩⟩⟩⟩) (List.forall_mem_cons.mpr ⟨xco_len (by decide) (xt3 (List.mem_of_getElem? (i := 40) rfl) rfl), List.forall_mem_cons.mpr ⟨xco_chr (by decide) (xt3 (List.mem_of_getElem? (i := 50) rfl) rfl), fun _ h => absurd h List.not_mem_nil⟩⟩)
theorem wcX8_wayHere : Cond.code yX8_wayHere cX8_wayHere 1 (some .int) ∈ xTB := (xt3 (List.mem_of_getElem? (i := 110) rfl) rfl)
theorem wiX8_wayHere : Cond.instanceMethod yX8_wayHere ∈ xTB := (xt3 (List.mem_of_getElem? (i := 108) rfl) rfl)
theorem weX8_wayHere : Cond.selects RX8 yX8_wayHere yX8_wayHere ∈ xTB := (xt3 (List.mem_of_getElem? (i := 109) rfl) rfl)
set_option maxRecDepth 100000 in
theorem kX8_wayHere {D : xD} : xC eX D yX8_wayHere cX8_wayHere 1 (some .int) 8 fX8_wayHere := xmet (own := RX8) xGl_ok xEcX_ok (by decide) rfl rk_1 (by decide +kernel) (fun _ h => absurd h List.not_mem_nil) (List.forall_mem_cons.mpr ⟨xco_V xEcX_ok kX8_says ⟨by decide, by decide⟩ rfl rfl (xt3 (List.mem_of_getElem? (i := 112) rfl) rfl) wiX8_says weX8_says xinX8 wcX8_says (by decide +kernel), fun _ h => absurd h List.not_mem_nil⟩)
theorem wcX8_refuse : Cond.code yX8_refuse cX8_refuse 3 (some .boolean) ∈ xTB := (xt3 (List.mem_of_getElem? (i := 99) rfl) rfl)
theorem wiX8_refuse : Cond.instanceMethod yX8_refuse ∈ xTB := (xt3 (List.mem_of_getElem? (i := 97) rfl) rfl)
theorem weX8_refuse : Cond.selects RX8 yX8_refuse yX8_refuse ∈ xTB := (xt3 (List.mem_of_getElem? (i := 98) rfl) rfl)
set_option maxRecDepth 100000 in
theorem kX8_refuse {D : xD} : xC eX D yX8_refuse cX8_refuse 3 (some .boolean) 1 fX8_refuse := xmet (own := RX8) xGl_ok xEcX_ok (by decide) rfl rk_2 (by decide +kernel) (List.forall_mem_cons.mpr ⟨foX8_19, List.forall_mem_cons.mpr ⟨foX8_22, fun _ h => absurd h List.not_mem_nil⟩⟩) (fun _ h => absurd h List.not_mem_nil)
theorem wcX8_refuseToken : Cond.code yX8_refuseToken cX8_refuseToken 2 (some .boolean) ∈ xTB := (xt3 (List.mem_of_getElem? (i := 95) rfl) rfl)
theorem wiX8_refuseToken : Cond.instanceMethod yX8_refuseToken ∈ xTB := (xt3 (List.mem_of_getElem? (i := 93) rfl) rfl)
theorem weX8_refuseToken : Cond.selects RX8 yX8_refuseToken yX8_refuseToken ∈ xTB := (xt3 (List.mem_of_getElem? (i := 94) rfl) rfl)
set_option maxRecDepth 100000 in
theorem kX8_refuseToken {D : xD} : xC eX D yX8_refuseToken cX8_refuseToken 2 (some .boolean) 2 fX8_refuseToken := xmet (own := RX8) xGl_ok xEcX_ok (by decide) rfl rk_2 (by decide +kernel) (List.forall_mem_cons.mpr ⟨foX8_28, fun _ h => absurd h List.not_mem_nil⟩) (List.forall_mem_cons.mpr ⟨xco_V xEcX_ok kX8_refuse ⟨by decide, by decide⟩ rfl rfl (xt3 (List.mem_of_getElem? (i := 96) rfl) rfl) wiX8_refuse weX8_refuse xinX8 wcX8_refuse (by decide +kernel), fun _ h => absurd h List.not_mem_nil⟩)
theorem wcX5_partNamed : Cond.code yX5_partNamed cX5_partNamed 3 (some .int) ∈ xTB := (xt3 (List.mem_of_getElem? (i := 121) rfl) rfl)
theorem wiX5_partNamed : Cond.instanceMethod yX5_partNamed ∈ xTB := (xt3 (List.mem_of_getElem? (i := 119) rfl) rfl)
theorem weX5_partNamed : Cond.selects RX5 yX5_partNamed yX5_partNamed ∈ xTB := (xt3 (List.mem_of_getElem? (i := 120) rfl) rfl)
theorem foX5_36 : xfo RX5 (36, 5, 6, 2) := ⟨RX5, TX5, 10, rfl, by decide, Or.inl (xt1 (List.mem_of_getElem? (i := 112) rfl) rfl), rfl, rfl, fun h => absurd rfl h⟩
set_option maxRecDepth 100000 in
theorem kX5_partNamed {D : xD} : xC eX D yX5_partNamed cX5_partNamed 3 (some .int) 1 fX5_partNamed := xmet (own := RX5) xGl_ok xEcX_ok (by decide) rfl rk_1 (by decide +kernel) (List.forall_mem_cons.mpr ⟨foX5_9, List.forall_mem_cons.mpr ⟨foX5_36, fun _ h => absurd h List.not_mem_nil⟩⟩) (fun _ h => absurd h List.not_mem_nil)
theorem wcX4_addName : Cond.code yX4_addName cX4_addName 3 (some .int) ∈ xTB := (xt6 (List.mem_of_getElem? (i := 29) rfl) rfl)
theorem wiX4_addName : Cond.instanceMethod yX4_addName ∈ xTB := (xt6 (List.mem_of_getElem? (i := 28) rfl) rfl)
theorem weX4_addName : Cond.selects RX4 yX4_addName yX4_addName ∈ xTB := xp3 (q := (yX4_addName, 10)) (List.mem_of_getElem? (i := 11) rfl)
theorem foX4_25 : xfo RX4 (25, 4, 5, 0) := ⟨RX4, TX4, 10, rfl, by decide, Or.inl (xt1 (List.mem_of_getElem? (i := 190) rfl) rfl), rfl, rfl, fun h => rfl⟩
theorem foX4_41 : xfo RX4 (41, 4, 0, 2) := ⟨RX4, TX4, 10, rfl, by decide, Or.inl (xt1 (List.mem_of_getElem? (i := 185) rfl) rfl), rfl, rfl, fun h => absurd rfl h⟩
theorem foX4_45 : xfo RX4 (45, 4, 1, 2) := ⟨RX4, TX4, 10, rfl, by decide, Or.inl (xt1 (List.mem_of_getElem? (i := 186) rfl) rfl), rfl, rfl, fun h => absurd rfl h⟩
theorem foX4_54 : xfo RX4 (54, 8, 4, 0) := ⟨RX8, TX8, 8, rfl, by decide, Or.inl (xt1 (List.mem_of_getElem? (i := 45) rfl) rfl), rfl, rfl, fun h => rfl⟩
theorem foX4_86 : xfo RX4 (86, 8, 6, 0) := ⟨RX8, TX8, 8, rfl, by decide, Or.inl (xt1 (List.mem_of_getElem? (i := 50) rfl) rfl), rfl, rfl, fun h => rfl⟩
set_option maxRecDepth 100000 in
theorem kX4_addName {D : xD} : xC eX D yX4_addName cX4_addName 3 (some .int) 9 fX4_addName := xmet (own := RX4) xGl_ok xEcX_ok (by decide) rfl rk_1 (by decide +kernel) (List.forall_mem_cons.mpr ⟨foX4_25, List.forall_mem_cons.mpr ⟨foX4_41, List.forall_mem_cons.mpr ⟨foX4_45, List.forall_mem_cons.mpr ⟨foX4_54, List.forall_mem_cons.mpr ⟨foX4_86, fun _ h => absurd h List.not_mem_nil⟩⟩⟩⟩⟩) (List.forall_mem_cons.mpr ⟨xco_V xEcX_ok kX8_says ⟨by decide, by decide⟩ rfl rfl (xt6 (List.mem_of_getElem? (i := 31) rfl) rfl) wiX8_says weX8_says xinX8 wcX8_says (by decide +kernel), List.forall_mem_cons.mpr ⟨xco_V xEcX_ok kX8_wayHere ⟨by decide, by decide⟩ rfl rfl (xt6 (List.mem_of_getElem? (i := 32) rfl) rfl) wiX8_wayHere weX8_wayHere xinX8 wcX8_wayHere (by decide +kernel), List.forall_mem_cons.mpr ⟨xco_V xEcX_ok kX8_refuseToken ⟨by decide, by decide⟩ rfl rfl (xt6 (List.mem_of_getElem? (i := 33) rfl) rfl) wiX8_refuseToken weX8_refuseToken xinX8 wcX8_refuseToken (by decide +kernel), List.forall_mem_cons.mpr ⟨xco_V xEcX_ok kX5_partNamed ⟨by decide, by decide⟩ rfl rfl (xt6 (List.mem_of_getElem? (i := 34) rfl) rfl) wiX5_partNamed weX5_partNamed xinX5 wcX5_partNamed (by decide +kernel), List.forall_mem_cons.mpr ⟨xco_V xEcX_ok kX8_advance ⟨by decide, by decide⟩ rfl rfl (xt6 (List.mem_of_getElem? (i := 35) rfl) rfl) wiX8_advance weX8_advance xinX8 wcX8_advance (by decide +kernel), fun _ h => absurd h List.not_mem_nil⟩⟩⟩⟩⟩)
theorem wcX4_addStep : Cond.code yX4_addStep cX4_addStep 3 none ∈ xTB := (xt6 (List.mem_of_getElem? (i := 39) rfl) rfl)
theorem wiX4_addStep : Cond.instanceMethod yX4_addStep ∈ xTB := (xt6 (List.mem_of_getElem? (i := 38) rfl) rfl)
theorem weX4_addStep : Cond.selects RX4 yX4_addStep yX4_addStep ∈ xTB := xp3 (q := (yX4_addStep, 10)) (List.mem_of_getElem? (i := 12) rfl)
theorem foX4_18 : xfo RX4 (18, 4, 3, 2) := ⟨RX4, TX4, 10, rfl, by decide, Or.inl (xt1 (List.mem_of_getElem? (i := 188) rfl) rfl), rfl, rfl, fun h => absurd rfl h⟩
theorem foX4_22 : xfo RX4 (22, 4, 4, 2) := ⟨RX4, TX4, 10, rfl, by decide, Or.inl (xt1 (List.mem_of_getElem? (i := 189) rfl) rfl), rfl, rfl, fun h => absurd rfl h⟩
set_option maxRecDepth 100000 in
theorem kX4_addStep {D : xD} : xC eX D yX4_addStep cX4_addStep 3 none 1 fX4_addStep := xmet (own := RX4) xGl_ok xEcX_ok (by decide) rfl rk_0 (by decide +kernel) (List.forall_mem_cons.mpr ⟨foX4_18, List.forall_mem_cons.mpr ⟨foX4_22, List.forall_mem_cons.mpr ⟨foX4_25, fun _ h => absurd h List.not_mem_nil⟩⟩⟩) (fun _ h => absurd h List.not_mem_nil)
theorem wcX4_readStep : Cond.code yX4_readStep cX4_readStep 3 (some .boolean) ∈ xTB := (xt6 (List.mem_of_getElem? (i := 25) rfl) rfl)
theorem wiX4_readStep : Cond.instanceMethod yX4_readStep ∈ xTB := (xt6 (List.mem_of_getElem? (i := 24) rfl) rfl)
theorem weX4_readStep : Cond.selects RX4 yX4_readStep yX4_readStep ∈ xTB := xp3 (q := (yX4_readStep, 10)) (List.mem_of_getElem? (i := 10) rfl)
set_option maxRecDepth 100000 in
theorem kX4_readStep {D : xD} : xC eX D yX4_readStep cX4_readStep 3 (some .boolean) 10 fX4_readStep := xmet (own := RX4) xGl_ok xEcX_ok (by decide) rfl rk_2 (by decide +kernel) (List.forall_mem_cons.mpr ⟨foX4_41, List.forall_mem_cons.mpr ⟨foX4_54, fun _ h => absurd h List.not_mem_nil⟩⟩) (List.forall_mem_cons.mpr ⟨xco_V xEcX_ok kX4_addName ⟨by decide, by decide⟩ rfl rfl (xt6 (List.mem_of_getElem? (i := 26) rfl) rfl) wiX4_addName weX4_addName xinX4 wcX4_addName (by decide +kernel), List.forall_mem_cons.mpr ⟨xco_V xEcX_ok kX8_says ⟨by decide, by decide⟩ rfl rfl (xt6 (List.mem_of_getElem? (i := 31) rfl) rfl) wiX8_says weX8_says xinX8 wcX8_says (by decide +kernel), List.forall_mem_cons.mpr ⟨xco_V xEcX_ok kX8_advance ⟨by decide, by decide⟩ rfl rfl (xt6 (List.mem_of_getElem? (i := 35) rfl) rfl) wiX8_advance weX8_advance xinX8 wcX8_advance (by decide +kernel), List.forall_mem_cons.mpr ⟨xco_V xEcX_ok kX8_wayHere ⟨by decide, by decide⟩ rfl rfl (xt6 (List.mem_of_getElem? (i := 32) rfl) rfl) wiX8_wayHere weX8_wayHere xinX8 wcX8_wayHere (by decide +kernel), List.forall_mem_cons.mpr ⟨xco_V xEcX_ok kX8_refuseToken ⟨by decide, by decide⟩ rfl rfl (xt6 (List.mem_of_getElem? (i := 33) rfl) rfl) wiX8_refuseToken weX8_refuseToken xinX8 wcX8_refuseToken (by decide +kernel), List.forall_mem_cons.mpr ⟨xco_V xEcX_ok kX4_addStep ⟨by decide, by decide⟩ rfl rfl (xt6 (List.mem_of_getElem? (i := 36) rfl) rfl) wiX4_addStep weX4_addStep xinX4 wcX4_addStep (by decide +kernel), fun _ h => absurd h List.not_mem_nil⟩⟩⟩⟩⟩⟩)
theorem wcX4_readAll : Cond.code yX4_readAll cX4_readAll 2 (some .boolean) ∈ xTB := (xt6 (List.mem_of_getElem? (i := 20) rfl) rfl)
theorem wiX4_readAll : Cond.instanceMethod yX4_readAll ∈ xTB := (xt6 (List.mem_of_getElem? (i := 18) rfl) rfl)
theorem weX4_readAll : Cond.selects RX4 yX4_readAll yX4_readAll ∈ xTB := (xt6 (List.mem_of_getElem? (i := 19) rfl) rfl)
set_option maxRecDepth 100000 in
theorem kX4_readAll {D : xD} : xC eX D yX4_readAll cX4_readAll 2 (some .boolean) 11 fX4_readAll := xmet (own := RX4) xGl_ok xEcX_ok (by decide) rfl rk_2 (by decide +kernel) (List.forall_mem_cons.mpr ⟨foX4_25, List.forall_mem_cons.mpr ⟨foX4_41, List.forall_mem_cons.mpr ⟨foX4_54, fun _ h => absurd h List.not_mem_nil⟩⟩⟩) (List.forall_mem_cons.mpr ⟨xco_V xEcX_ok kX8_rewind ⟨by decide, by decide⟩ rfl rfl (xt6 (List.mem_of_getElem? (i := 21) rfl) rfl) wiX8_rewind weX8_rewind xinX8 wcX8_rewind (by decide +kernel), List.forall_mem_cons.mpr ⟨xco_V xEcX_ok kX4_readStep ⟨by decide, by decide⟩ rfl rfl (xt6 (List.mem_of_getElem? (i := 22) rfl) rfl) wiX4_readStep weX4_readStep xinX4 wcX4_readStep (by decide +kernel), fun _ h => absurd h List.not_mem_nil⟩⟩)
theorem wcX10_barring : Cond.code yX10_barring cX10_barring 3 (some .int) ∈ xTB := (xt4 (List.mem_of_getElem? (i := 65) rfl) rfl)
theorem wiX10_barring : Cond.instanceMethod yX10_barring ∈ xTB := (xt4 (List.mem_of_getElem? (i := 63) rfl) rfl)
theorem weX10_barring : Cond.selects RX10 yX10_barring yX10_barring ∈ xTB := (xt4 (List.mem_of_getElem? (i := 64) rfl) rfl)
set_option maxRecDepth 100000 in
theorem kX10_barring {D : xD} : xC eX D yX10_barring cX10_barring 3 (some .int) 1 fX10_barring := xmet (own := RX10) xGl_ok xEcX_ok (by decide) rfl rk_1 (by decide +kernel) (List.forall_mem_cons.mpr ⟨foX10_25, fun _ h => absurd h List.not_mem_nil⟩) (fun _ h => absurd h List.not_mem_nil)
theorem wcX4_judgeStep : Cond.code yX4_judgeStep cX4_judgeStep 7 none ∈ xTB := (xt6 (List.mem_of_getElem? (i := 48) rfl) rfl)
theorem wiX4_judgeStep : Cond.instanceMethod yX4_judgeStep ∈ xTB := (xt6 (List.mem_of_getElem? (i := 47) rfl) rfl)
theorem weX4_judgeStep : Cond.selects RX4 yX4_judgeStep yX4_judgeStep ∈ xTB := xp3 (q := (yX4_judgeStep, 10)) (List.mem_of_getElem? (i := 13) rfl)
theorem foX4_12 : xfo RX4 (12, 4, 2, 2) := ⟨RX4, TX4, 10, rfl, by decide, Or.inl (xt1 (List.mem_of_getElem? (i := 187) rfl) rfl), rfl, rfl, fun h => absurd rfl h⟩
theorem foX4_32 : xfo RX4 (32, 4, 7, 0) := ⟨RX4, TX4, 10, rfl, by decide, Or.inl (xt1 (List.mem_of_getElem? (i := 192) rfl) rfl), rfl, rfl, fun h => rfl⟩
theorem foX4_35 : xfo RX4 (35, 4, 8, 0) := ⟨RX4, TX4, 10, rfl, by decide, Or.inl (xt1 (List.mem_of_getElem? (i := 194) rfl) rfl), rfl, rfl, fun h => rfl⟩
theorem foX4_38 : xfo RX4 (38, 4, 9, 0) := ⟨RX4, TX4, 10, rfl, by decide, Or.inl (xt1 (List.mem_of_getElem? (i := 195) rfl) rfl), rfl, rfl, fun h => rfl⟩
set_option maxRecDepth 100000 in
theorem kX4_judgeStep {D : xD} : xC eX D yX4_judgeStep cX4_judgeStep 7 none 3 fX4_judgeStep := xmet (own := RX4) xGl_ok xEcX_ok (by decide) rfl rk_0 (by decide +kernel) (List.forall_mem_cons.mpr ⟨foX4_12, List.forall_mem_cons.mpr ⟨foX4_32, List.forall_mem_cons.mpr ⟨foX4_35, List.forall_mem_cons.mpr ⟨foX4_38, List.forall_mem_cons.mpr ⟨foX4_45, fun _ h => absurd h List.not_mem_nil⟩⟩⟩⟩⟩) (List.forall_mem_cons.mpr ⟨xco_V xEcX_ok kX3_heapAround ⟨by decide, by decide⟩ rfl rfl (xt6 (List.mem_of_getElem? (i := 49) rfl) rfl) wiX3_heapAround weX3_heapAround xinX3 wcX3_heapAround (by decide +kernel), List.forall_mem_cons.mpr ⟨xco_V xEcX_ok kX10_barring ⟨by decide, by decide⟩ rfl rfl (xt6 (List.mem_of_getElem? (i := 50) rfl) rfl) wiX10_barring weX10_barring xinX10 wcX10_barring (by decide +kernel), List.forall_mem_cons.mpr ⟨xco_V xEcX_ok kX5_stuckJoint ⟨by decide, by decide⟩ rfl rfl (xt6 (List.mem_of_getElem? (i := 51) rfl) rfl) wiX5_stuckJoint weX5_stuckJoint xinX5 wcX5_stuckJoint (by decide +kernel), List.forall_mem_cons.mpr ⟨xco_N kX11_leastOf ⟨by decide, by decide⟩ (List.mem_of_getElem? (i := 18) rfl) wiX11_leastOf xinX11 wcX11_leastOf (by decide +kernel), List.forall_mem_cons.mpr ⟨xco_V xEcX_ok kX3_divide ⟨by decide, by decide⟩ rfl rfl (xt6 (List.mem_of_getElem? (i := 53) rfl) rfl) wiX3_divide weX3_divide xinX3 wcX3_divide (by decide +kernel), fun _ h => absurd h List.not_mem_nil⟩⟩⟩⟩⟩)
theorem wcX4_judge : Cond.code yX4_judge cX4_judge 3 none ∈ xTB := (xt6 (List.mem_of_getElem? (i := 43) rfl) rfl)
theorem wiX4_judge : Cond.instanceMethod yX4_judge ∈ xTB := (xt6 (List.mem_of_getElem? (i := 41) rfl) rfl)
theorem weX4_judge : Cond.selects RX4 yX4_judge yX4_judge ∈ xTB := (xt6 (List.mem_of_getElem? (i := 42) rfl) rfl)
theorem foX4_94 : xfo RX4 (94, 5, 0, 0) := ⟨RX5, TX5, 10, rfl, by decide, Or.inl (xt1 (List.mem_of_getElem? (i := 94) rfl) rfl), rfl, rfl, fun h => rfl⟩
set_option maxRecDepth 100000 in
theorem kX4_judge {D : xD} : xC eX D yX4_judge cX4_judge 3 none 4 fX4_judge := xmet (own := RX4) xGl_ok xEcX_ok (by decide) rfl rk_0 (by decide +kernel) (List.forall_mem_cons.mpr ⟨foX4_12, List.forall_mem_cons.mpr ⟨foX4_18, List.forall_mem_cons.mpr ⟨foX4_22, List.forall_mem_cons.mpr ⟨foX4_25, List.forall_mem_cons.mpr ⟨foX4_29, List.forall_mem_cons.mpr ⟨foX4_32, List.forall_mem_cons.mpr ⟨foX4_35, List.forall_mem_cons.mpr ⟨foX4_38, List.forall_mem_cons.mpr ⟨foX4_45, List.forall_mem_cons.mpr ⟨foX4_94, fun _ h => absurd h List.not_mem_nil⟩⟩⟩⟩⟩⟩⟩⟩⟩⟩) (List.forall_mem_cons.mpr ⟨xco_V xEcX_ok kX3_gather ⟨by decide, by decide⟩ rfl rfl (xt6 (List.mem_of_getElem? (i := 44) rfl) rfl) wiX3_gather weX3_gather xinX3 wcX3_gather (by decide +kernel), List.forall_mem_cons.mpr ⟨xco_V xEcX_ok kX4_judgeStep ⟨by decide, by decide⟩ rfl rfl (xt6 (List.mem_of_getElem? (i := 45) rfl) rfl) wiX4_judgeStep weX4_judgeStep xinX4 wcX4_judgeStep (by decide +kernel), fun _ h => absurd h List.not_mem_nil⟩⟩)
theorem wcX4_answer : Cond.code yX4_answer cX4_answer 2 (some .int) ∈ xTB := (xt6 (List.mem_of_getElem? (i := 61) rfl) rfl)
theorem wiX4_answer : Cond.instanceMethod yX4_answer ∈ xTB := (xt6 (List.mem_of_getElem? (i := 59) rfl) rfl)
theorem weX4_answer : Cond.selects RX4 yX4_answer yX4_answer ∈ xTB := (xt6 (List.mem_of_getElem? (i := 60) rfl) rfl)
set_option maxRecDepth 100000 in
theorem kX4_answer {D : xD} : xC eX D yX4_answer cX4_answer 2 (some .int) 1 fX4_answer := xmet (own := RX4) xGl_ok xEcX_ok (by decide) rfl rk_1 (by decide +kernel) (List.forall_mem_cons.mpr ⟨foX4_29, List.forall_mem_cons.mpr ⟨foX4_32, List.forall_mem_cons.mpr ⟨foX4_35, List.forall_mem_cons.mpr ⟨foX4_38, fun _ h => absurd h List.not_mem_nil⟩⟩⟩⟩) (fun _ h => absurd h List.not_mem_nil)
theorem wcX5_isPart : Cond.code yX5_isPart cX5_isPart 2 (some .boolean) ∈ xTB := (xt3 (List.mem_of_getElem? (i := 156) rfl) rfl)
theorem wiX5_isPart : Cond.instanceMethod yX5_isPart ∈ xTB := (xt3 (List.mem_of_getElem? (i := 154) rfl) rfl)
theorem weX5_isPart : Cond.selects RX5 yX5_isPart yX5_isPart ∈ xTB := (xt3 (List.mem_of_getElem? (i := 155) rfl) rfl)
set_option maxRecDepth 100000 in
theorem kX5_isPart {D : xD} : xC eX D yX5_isPart cX5_isPart 2 (some .boolean) 1 fX5_isPart := xmet (own := RX5) xGl_ok xEcX_ok (by decide) rfl rk_2 (by decide +kernel) (List.forall_mem_cons.mpr ⟨foX5_9, fun _ h => absurd h List.not_mem_nil⟩) (fun _ h => absurd h List.not_mem_nil)
theorem wcX5_isHeap : Cond.code yX5_isHeap cX5_isHeap 2 (some .boolean) ∈ xTB := (xt4 (List.mem_of_getElem? (i := 87) rfl) rfl)
theorem wiX5_isHeap : Cond.instanceMethod yX5_isHeap ∈ xTB := (xt4 (List.mem_of_getElem? (i := 85) rfl) rfl)
theorem weX5_isHeap : Cond.selects RX5 yX5_isHeap yX5_isHeap ∈ xTB := (xt4 (List.mem_of_getElem? (i := 86) rfl) rfl)
set_option maxRecDepth 100000 in
theorem kX5_isHeap {D : xD} : xC eX D yX5_isHeap cX5_isHeap 2 (some .boolean) 2 fX5_isHeap := xmet (own := RX5) xGl_ok xEcX_ok (by decide) rfl rk_2 (by decide +kernel) (fun _ h => absurd h List.not_mem_nil) (List.forall_mem_cons.mpr ⟨xco_V xEcX_ok kX5_whole ⟨by decide, by decide⟩ rfl rfl (xt4 (List.mem_of_getElem? (i := 88) rfl) rfl) wiX5_whole weX5_whole xinX5 wcX5_whole (by decide +kernel), fun _ h => absurd h List.not_mem_nil⟩)
theorem wcX5_isHalf : Cond.code yX5_isHalf cX5_isHalf 3 (some .boolean) ∈ xTB := (xt4 (List.mem_of_getElem? (i := 83) rfl) rfl)
theorem wiX5_isHalf : Cond.instanceMethod yX5_isHalf ∈ xTB := (xt4 (List.mem_of_getElem? (i := 81) rfl) rfl)
theorem weX5_isHalf : Cond.selects RX5 yX5_isHalf yX5_isHalf ∈ xTB := (xt4 (List.mem_of_getElem? (i := 82) rfl) rfl)
set_option maxRecDepth 100000 in
theorem kX5_isHalf {D : xD} : xC eX D yX5_isHalf cX5_isHalf 3 (some .boolean) 3 fX5_isHalf := xmet (own := RX5) xGl_ok xEcX_ok (by decide) rfl rk_2 (by decide +kernel) (fun _ h => absurd h List.not_mem_nil) (List.forall_mem_cons.mpr ⟨xco_V xEcX_ok kX5_isHeap ⟨by decide, by decide⟩ rfl rfl (xt4 (List.mem_of_getElem? (i := 84) rfl) rfl) wiX5_isHeap weX5_isHeap xinX5 wcX5_isHeap (by decide +kernel), List.forall_mem_cons.mpr ⟨xco_N kX11_within ⟨by decide, by decide⟩ (List.mem_of_getElem? (i := 20) rfl) wiX11_within xinX11 wcX11_within (by decide +kernel), fun _ h => absurd h List.not_mem_nil⟩⟩)
theorem wcX5_isBent : Cond.code yX5_isBent cX5_isBent 2 (some .boolean) ∈ xTB := (xt4 (List.mem_of_getElem? (i := 32) rfl) rfl)
theorem wiX5_isBent : Cond.instanceMethod yX5_isBent ∈ xTB := (xt4 (List.mem_of_getElem? (i := 30) rfl) rfl)
theorem weX5_isBent : Cond.selects RX5 yX5_isBent yX5_isBent ∈ xTB := (xt4 (List.mem_of_getElem? (i := 31) rfl) rfl)
theorem foX5_18 : xfo RX5 (18, 5, 2, 0) := ⟨RX5, TX5, 10, rfl, by decide, Or.inl (xt1 (List.mem_of_getElem? (i := 99) rfl) rfl), rfl, rfl, fun h => rfl⟩
set_option maxRecDepth 100000 in
theorem kX5_isBent {D : xD} : xC eX D yX5_isBent cX5_isBent 2 (some .boolean) 1 fX5_isBent := xmet (own := RX5) xGl_ok xEcX_ok (by decide) rfl rk_2 (by decide +kernel) (List.forall_mem_cons.mpr ⟨foX5_18, fun _ h => absurd h List.not_mem_nil⟩) (fun _ h => absurd h List.not_mem_nil)
theorem wcX5_isSwollen : Cond.code yX5_isSwollen cX5_isSwollen 3 (some .boolean) ∈ xTB := (xt3 (List.mem_of_getElem? (i := 225) rfl) rfl)
theorem wiX5_isSwollen : Cond.instanceMethod yX5_isSwollen ∈ xTB := (xt3 (List.mem_of_getElem? (i := 223) rfl) rfl)
theorem weX5_isSwollen : Cond.selects RX5 yX5_isSwollen yX5_isSwollen ∈ xTB := (xt3 (List.mem_of_getElem? (i := 224) rfl) rfl)
theorem foX5_21 : xfo RX5 (21, 5, 3, 2) := ⟨RX5, TX5, 10, rfl, by decide, Or.inl (xt1 (List.mem_of_getElem? (i := 102) rfl) rfl), rfl, rfl, fun h => absurd rfl h⟩
set_option maxRecDepth 100000 in
theorem kX5_isSwollen {D : xD} : xC eX D yX5_isSwollen cX5_isSwollen 3 (some .boolean) 1 fX5_isSwollen := xmet (own := RX5) xGl_ok xEcX_ok (by decide) rfl rk_2 (by decide +kernel) (List.forall_mem_cons.mpr ⟨foX5_21, fun _ h => absurd h List.not_mem_nil⟩) (fun _ h => absurd h List.not_mem_nil)
theorem wcX6_isCell : Cond.code yX6_isCell cX6_isCell 3 (some .boolean) ∈ xTB := (xt3 (List.mem_of_getElem? (i := 148) rfl) rfl)
theorem wiX6_isCell : Cond.static yX6_isCell ∈ xTB := (xt3 (List.mem_of_getElem? (i := 147) rfl) rfl)
set_option maxRecDepth 100000 in
theorem kX6_isCell {D : xD} : xC eX D yX6_isCell cX6_isCell 3 (some .boolean) 1 fX6_isCell := xmet (own := RX6) xGl_ok xEcX_ok (by decide) rfl rk_2 (by decide +kernel) (fun _ h => absurd h List.not_mem_nil) (fun _ h => absurd h List.not_mem_nil)
theorem wcX6_has : Cond.code yX6_has cX6_has 4 (some .boolean) ∈ xTB := (xt3 (List.mem_of_getElem? (i := 145) rfl) rfl)
theorem wiX6_has : Cond.instanceMethod yX6_has ∈ xTB := (xt3 (List.mem_of_getElem? (i := 143) rfl) rfl)
theorem weX6_has : Cond.selects RX6 yX6_has yX6_has ∈ xTB := (xt3 (List.mem_of_getElem? (i := 144) rfl) rfl)
set_option maxRecDepth 100000 in
theorem kX6_has {D : xD} : xC eX D yX6_has cX6_has 4 (some .boolean) 2 fX6_has := xmet (own := RX6) xGl_ok xEcX_ok (by decide) rfl rk_2 (by decide +kernel) (List.forall_mem_cons.mpr ⟨foX6_11, fun _ h => absurd h List.not_mem_nil⟩) (List.forall_mem_cons.mpr ⟨xco_S kX6_isCell ⟨by decide, by decide⟩ (xt3 (List.mem_of_getElem? (i := 146) rfl) rfl) wiX6_isCell xinX6 wcX6_isCell (by decide +kernel), fun _ h => absurd h List.not_mem_nil⟩)
theorem wcX5_partAt : Cond.code yX5_partAt cX5_partAt 5 (some .int) ∈ xTB := (xt3 (List.mem_of_getElem? (i := 203) rfl) rfl)
theorem wiX5_partAt : Cond.instanceMethod yX5_partAt ∈ xTB := (xt3 (List.mem_of_getElem? (i := 201) rfl) rfl)
theorem weX5_partAt : Cond.selects RX5 yX5_partAt yX5_partAt ∈ xTB := (xt3 (List.mem_of_getElem? (i := 202) rfl) rfl)
set_option maxRecDepth 100000 in
theorem kX5_partAt {D : xD} : xC eX D yX5_partAt cX5_partAt 5 (some .int) 3 fX5_partAt := xmet (own := RX5) xGl_ok xEcX_ok (by decide) rfl rk_1 (by decide +kernel) (List.forall_mem_cons.mpr ⟨foX5_9, List.forall_mem_cons.mpr ⟨foX5_32, fun _ h => absurd h List.not_mem_nil⟩⟩) (List.forall_mem_cons.mpr ⟨xco_V xEcX_ok kX6_has ⟨by decide, by decide⟩ rfl rfl (xt3 (List.mem_of_getElem? (i := 204) rfl) rfl) wiX6_has weX6_has xinX6 wcX6_has (by decide +kernel), fun _ h => absurd h List.not_mem_nil⟩)
theorem wcX5_clear : Cond.code yX5_clear cX5_clear 1 none ∈ xTB := (xt3 (List.mem_of_getElem? (i := 2) rfl) rfl)
theorem wiX5_clear : Cond.instanceMethod yX5_clear ∈ xTB := (xt3 (List.mem_of_getElem? (i := 0) rfl) rfl)
theorem weX5_clear : Cond.selects RX5 yX5_clear yX5_clear ∈ xTB := (xt3 (List.mem_of_getElem? (i := 1) rfl) rfl)
theorem foX5_28 : xfo RX5 (28, 5, 4, 2) := ⟨RX5, TX5, 10, rfl, by decide, Or.inl (xt1 (List.mem_of_getElem? (i := 104) rfl) rfl), rfl, rfl, fun h => absurd rfl h⟩
set_option maxRecDepth 100000 in
theorem kX5_clear {D : xD} : xC eX D yX5_clear cX5_clear 1 none 2 fX5_clear := xmet (own := RX5) xGl_ok xEcX_ok (by decide) rfl rk_0 (by decide +kernel) (List.forall_mem_cons.mpr ⟨foX5_9, List.forall_mem_cons.mpr ⟨foX5_15, List.forall_mem_cons.mpr ⟨foX5_18, List.forall_mem_cons.mpr ⟨foX5_21, List.forall_mem_cons.mpr ⟨foX5_28, fun _ h => absurd h List.not_mem_nil⟩⟩⟩⟩⟩) (List.forall_mem_cons.mpr ⟨xco_S kJ7_fill_53178 ⟨by decide, by decide⟩ (xt3 (List.mem_of_getElem? (i := 3) rfl) rfl) wiJ7_fill_53178 xinJ7 wcJ7_fill_53178 (by decide +kernel), List.forall_mem_cons.mpr ⟨xco_V xEcX_ok kX6_wipe ⟨by decide, by decide⟩ rfl rfl (xt3 (List.mem_of_getElem? (i := 6) rfl) rfl) wiX6_wipe weX6_wipe xinX6 wcX6_wipe (by decide +kernel), fun _ h => absurd h List.not_mem_nil⟩⟩)
theorem wcX5_addPart : Cond.code yX5_addPart cX5_addPart 2 none ∈ xTB := (xt3 (List.mem_of_getElem? (i := 129) rfl) rfl)
theorem wiX5_addPart : Cond.instanceMethod yX5_addPart ∈ xTB := (xt3 (List.mem_of_getElem? (i := 127) rfl) rfl)
theorem weX5_addPart : Cond.selects RX5 yX5_addPart yX5_addPart ∈ xTB := (xt3 (List.mem_of_getElem? (i := 128) rfl) rfl)
set_option maxRecDepth 100000 in
theorem kX5_addPart {D : xD} : xC eX D yX5_addPart cX5_addPart 2 none 2 fX5_addPart := xmet (own := RX5) xGl_ok xEcX_ok (by decide) rfl rk_0 (by decide +kernel) (List.forall_mem_cons.mpr ⟨foX5_9, List.forall_mem_cons.mpr ⟨foX5_32, List.forall_mem_cons.mpr ⟨foX5_36, fun _ h => absurd h List.not_mem_nil⟩⟩⟩) (List.forall_mem_cons.mpr ⟨xco_V xEcX_ok kX6_wipe ⟨by decide, by decide⟩ rfl rfl (xt3 (List.mem_of_getElem? (i := 6) rfl) rfl) wiX6_wipe weX6_wipe xinX6 wcX6_wipe (by decide +kernel), fun _ h => absurd h List.not_mem_nil⟩)
theorem wcX6_put : Cond.code yX6_put cX6_put 4 none ∈ xTB := (xt3 (List.mem_of_getElem? (i := 160) rfl) rfl)
theorem wiX6_put : Cond.instanceMethod yX6_put ∈ xTB := (xt3 (List.mem_of_getElem? (i := 158) rfl) rfl)
theorem weX6_put : Cond.selects RX6 yX6_put yX6_put ∈ xTB := (xt3 (List.mem_of_getElem? (i := 159) rfl) rfl)
set_option maxRecDepth 100000 in
theorem kX6_put {D : xD} : xC eX D yX6_put cX6_put 4 none 2 fX6_put := xmet (own := RX6) xGl_ok xEcX_ok (by decide) rfl rk_0 (by decide +kernel) (List.forall_mem_cons.mpr ⟨foX6_11, fun _ h => absurd h List.not_mem_nil⟩) (List.forall_mem_cons.mpr ⟨xco_S kX6_isCell ⟨by decide, by decide⟩ (xt3 (List.mem_of_getElem? (i := 146) rfl) rfl) wiX6_isCell xinX6 wcX6_isCell (by decide +kernel), fun _ h => absurd h List.not_mem_nil⟩)
theorem wcX5_putCell : Cond.code yX5_putCell cX5_putCell 5 none ∈ xTB := (xt3 (List.mem_of_getElem? (i := 152) rfl) rfl)
theorem wiX5_putCell : Cond.instanceMethod yX5_putCell ∈ xTB := (xt3 (List.mem_of_getElem? (i := 150) rfl) rfl)
theorem weX5_putCell : Cond.selects RX5 yX5_putCell yX5_putCell ∈ xTB := (xt3 (List.mem_of_getElem? (i := 151) rfl) rfl)
set_option maxRecDepth 100000 in
theorem kX5_putCell {D : xD} : xC eX D yX5_putCell cX5_putCell 5 none 3 fX5_putCell := xmet (own := RX5) xGl_ok xEcX_ok (by decide) rfl rk_0 (by decide +kernel) (List.forall_mem_cons.mpr ⟨foX5_28, List.forall_mem_cons.mpr ⟨foX5_32, fun _ h => absurd h List.not_mem_nil⟩⟩) (List.forall_mem_cons.mpr ⟨xco_V xEcX_ok kX5_isPart ⟨by decide, by decide⟩ rfl rfl (xt3 (List.mem_of_getElem? (i := 153) rfl) rfl) wiX5_isPart weX5_isPart xinX5 wcX5_isPart (by decide +kernel), List.forall_mem_cons.mpr ⟨xco_V xEcX_ok kX6_put ⟨by decide, by decide⟩ rfl rfl (xt3 (List.mem_of_getElem? (i := 157) rfl) rfl) wiX6_put weX6_put xinX6 wcX6_put (by decide +kernel), fun _ h => absurd h List.not_mem_nil⟩⟩)
theorem wcX5_addJoint : Cond.code yX5_addJoint cX5_addJoint 3 none ∈ xTB := (xt3 (List.mem_of_getElem? (i := 177) rfl) rfl)
theorem wiX5_addJoint : Cond.instanceMethod yX5_addJoint ∈ xTB := (xt3 (List.mem_of_getElem? (i := 175) rfl) rfl)
theorem weX5_addJoint : Cond.selects RX5 yX5_addJoint yX5_addJoint ∈ xTB := (xt3 (List.mem_of_getElem? (i := 176) rfl) rfl)
theorem foX5_45 : xfo RX5 (45, 5, 9, 2) := ⟨RX5, TX5, 10, rfl, by decide, Or.inl (xt1 (List.mem_of_getElem? (i := 115) rfl) rfl), rfl, rfl, fun h => absurd rfl h⟩
set_option maxRecDepth 100000 in
theorem kX5_addJoint {D : xD} : xC eX D yX5_addJoint cX5_addJoint 3 none 1 fX5_addJoint := xmet (own := RX5) xGl_ok xEcX_ok (by decide) rfl rk_0 (by decide +kernel) (List.forall_mem_cons.mpr ⟨foX5_15, List.forall_mem_cons.mpr ⟨foX5_39, List.forall_mem_cons.mpr ⟨foX5_45, fun _ h => absurd h List.not_mem_nil⟩⟩⟩) (fun _ h => absurd h List.not_mem_nil)
theorem wcX5_partsBeyond : Cond.code yX5_partsBeyond cX5_partsBeyond 10 (some .int) ∈ xTB := (xt3 (List.mem_of_getElem? (i := 193) rfl) rfl)
theorem wiX5_partsBeyond : Cond.instanceMethod yX5_partsBeyond ∈ xTB := (xt3 (List.mem_of_getElem? (i := 192) rfl) rfl)
theorem weX5_partsBeyond : Cond.selects RX5 yX5_partsBeyond yX5_partsBeyond ∈ xTB := xp1 (q := (yX5_partsBeyond, 10)) (List.mem_of_getElem? (i := 10) rfl)
set_option maxRecDepth 100000 in
theorem kX5_partsBeyond {D : xD} : xC eX D yX5_partsBeyond cX5_partsBeyond 10 (some .int) 4 fX5_partsBeyond := xmet (own := RX5) xGl_ok xEcX_ok (by decide) rfl rk_1 (by decide +kernel) (fun _ h => absurd h List.not_mem_nil) (List.forall_mem_cons.mpr ⟨xco_N kX11_axisOf ⟨by decide, by decide⟩ (List.mem_of_getElem? (i := 21) rfl) wiX11_axisOf xinX11 wcX11_axisOf (by decide +kernel), List.forall_mem_cons.mpr ⟨xco_N kX11_signOf ⟨by decide, by decide⟩ (List.mem_of_getElem? (i := 22) rfl) wiX11_signOf xinX11 wcX11_signOf (by decide +kernel), List.forall_mem_cons.mpr ⟨xco_V xEcX_ok kX5_partAt ⟨by decide, by decide⟩ rfl rfl (xt3 (List.mem_of_getElem? (i := 200) rfl) rfl) wiX5_partAt weX5_partAt xinX5 wcX5_partAt (by decide +kernel), fun _ h => absurd h List.not_mem_nil⟩⟩⟩)
theorem wcX5_findCovers : Cond.code yX5_findCovers cX5_findCovers 2 none ∈ xTB := (xt3 (List.mem_of_getElem? (i := 189) rfl) rfl)
theorem wiX5_findCovers : Cond.instanceMethod yX5_findCovers ∈ xTB := (xt3 (List.mem_of_getElem? (i := 187) rfl) rfl)
theorem weX5_findCovers : Cond.selects RX5 yX5_findCovers yX5_findCovers ∈ xTB := (xt3 (List.mem_of_getElem? (i := 188) rfl) rfl)
set_option maxRecDepth 100000 in
theorem kX5_findCovers {D : xD} : xC eX D yX5_findCovers cX5_findCovers 2 none 5 fX5_findCovers := xmet (own := RX5) xGl_ok xEcX_ok (by decide) rfl rk_0 (by decide +kernel) (List.forall_mem_cons.mpr ⟨foX5_15, List.forall_mem_cons.mpr ⟨foX5_42, List.forall_mem_cons.mpr ⟨foX5_45, fun _ h => absurd h List.not_mem_nil⟩⟩⟩) (List.forall_mem_cons.mpr ⟨xco_V xEcX_ok kX5_partsBeyond ⟨by decide, by decide⟩ rfl rfl (xt3 (List.mem_of_getElem? (i := 190) rfl) rfl) wiX5_partsBeyond weX5_partsBeyond xinX5 wcX5_partsBeyond (by decide +kernel), fun _ h => absurd h List.not_mem_nil⟩)
theorem wcX5_become : Cond.code yX5_become cX5_become 3 none ∈ xTB := (xt3 (List.mem_of_getElem? (i := 181) rfl) rfl)
theorem wiX5_become : Cond.instanceMethod yX5_become ∈ xTB := (xt3 (List.mem_of_getElem? (i := 179) rfl) rfl)
theorem weX5_become : Cond.selects RX5 yX5_become yX5_become ∈ xTB := (xt3 (List.mem_of_getElem? (i := 180) rfl) rfl)
set_option maxRecDepth 100000 in
theorem kX5_become {D : xD} : xC eX D yX5_become cX5_become 3 none 6 fX5_become := xmet (own := RX5) xGl_ok xEcX_ok (by decide) rfl rk_0 (by decide +kernel) (List.forall_mem_cons.mpr ⟨foX5_9, List.forall_mem_cons.mpr ⟨foX5_15, List.forall_mem_cons.mpr ⟨foX5_28, List.forall_mem_cons.mpr ⟨foX5_32, List.forall_mem_cons.mpr ⟨foX5_36, List.forall_mem_cons.mpr ⟨foX5_39, List.forall_mem_cons.mpr ⟨foX5_45, fun _ h => absurd h List.not_mem_nil⟩⟩⟩⟩⟩⟩⟩) (List.forall_mem_cons.mpr ⟨xco_V xEcX_ok kX5_clear ⟨by decide, by decide⟩ rfl rfl (xt3 (List.mem_of_getElem? (i := 182) rfl) rfl) wiX5_clear weX5_clear xinX5 wcX5_clear (by decide +kernel), List.forall_mem_cons.mpr ⟨xco_V xEcX_ok kX5_addPart ⟨by decide, by decide⟩ rfl rfl (xt3 (List.mem_of_getElem? (i := 183) rfl) rfl) wiX5_addPart weX5_addPart xinX5 wcX5_addPart (by decide +kernel), List.forall_mem_cons.mpr ⟨xco_V xEcX_ok kX6_copy ⟨by decide, by decide⟩ rfl rfl (xt3 (List.mem_of_getElem? (i := 184) rfl) rfl) wiX6_copy weX6_copy xinX6 wcX6_copy (by decide +kernel), List.forall_mem_cons.mpr ⟨xco_V xEcX_ok kX5_addJoint ⟨by decide, by decide⟩ rfl rfl (xt3 (List.mem_of_getElem? (i := 185) rfl) rfl) wiX5_addJoint weX5_addJoint xinX5 wcX5_addJoint (by decide +kernel), List.forall_mem_cons.mpr ⟨xco_V xEcX_ok kX5_findCovers ⟨by decide, by decide⟩ rfl rfl (xt3 (List.mem_of_getElem? (i := 186) rfl) rfl) wiX5_findCovers weX5_findCovers xinX5 wcX5_findCovers (by decide +kernel), fun _ h => absurd h List.not_mem_nil⟩⟩⟩⟩⟩)
theorem wcX6_drop : Cond.code yX6_drop cX6_drop 3 none ∈ xTB := (xt4 (List.mem_of_getElem? (i := 2) rfl) rfl)
theorem wiX6_drop : Cond.instanceMethod yX6_drop ∈ xTB := (xt4 (List.mem_of_getElem? (i := 0) rfl) rfl)
theorem weX6_drop : Cond.selects RX6 yX6_drop yX6_drop ∈ xTB := (xt4 (List.mem_of_getElem? (i := 1) rfl) rfl)
set_option maxRecDepth 100000 in
theorem kX6_drop {D : xD} : xC eX D yX6_drop cX6_drop 3 none 1 fX6_drop := xmet (own := RX6) xGl_ok xEcX_ok (by decide) rfl rk_0 (by decide +kernel) (List.forall_mem_cons.mpr ⟨foX6_11, fun _ h => absurd h List.not_mem_nil⟩) (fun _ h => absurd h List.not_mem_nil)
theorem wcX6_isSame : Cond.code yX6_isSame cX6_isSame 3 (some .boolean) ∈ xTB := (xt6 (List.mem_of_getElem? (i := 104) rfl) rfl)
theorem wiX6_isSame : Cond.instanceMethod yX6_isSame ∈ xTB := (xt6 (List.mem_of_getElem? (i := 102) rfl) rfl)
theorem weX6_isSame : Cond.selects RX6 yX6_isSame yX6_isSame ∈ xTB := (xt6 (List.mem_of_getElem? (i := 103) rfl) rfl)
set_option maxRecDepth 100000 in
theorem kX6_isSame {D : xD} : xC eX D yX6_isSame cX6_isSame 3 (some .boolean) 1 fX6_isSame := xmet (own := RX6) xGl_ok xEcX_ok (by decide) rfl rk_2 (by decide +kernel) (List.forall_mem_cons.mpr ⟨foX6_11, fun _ h => absurd h List.not_mem_nil⟩) (fun _ h => absurd h List.not_mem_nil)
theorem wcX6_columns : Cond.code yX6_columns cX6_columns 5 (some .long) ∈ xTB := (xt5 (List.mem_of_getElem? (i := 181) rfl) rfl)
theorem wiX6_columns : Cond.static yX6_columns ∈ xTB := (xt5 (List.mem_of_getElem? (i := 180) rfl) rfl)
set_option maxRecDepth 100000 in
theorem kX6_columns {D : xD} : xC eX D yX6_columns cX6_columns 5 (some .long) 1 fX6_columns := xmet (own := RX6) xGl_ok xEcX_ok (by decide) rfl rk_3 (by decide +kernel) (fun _ h => absurd h List.not_mem_nil) (fun _ h => absurd h List.not_mem_nil)
theorem wcX6_movePlane : Cond.code yX6_movePlane cX6_movePlane 6 (some .long) ∈ xTB := (xt5 (List.mem_of_getElem? (i := 184) rfl) rfl)
theorem wiX6_movePlane : Cond.static yX6_movePlane ∈ xTB := (xt5 (List.mem_of_getElem? (i := 183) rfl) rfl)
set_option maxRecDepth 100000 in
theorem kX6_movePlane {D : xD} : xC eX D yX6_movePlane cX6_movePlane 6 (some .long) 1 fX6_movePlane := xmet (own := RX6) xGl_ok xEcX_ok (by decide) rfl rk_3 (by decide +kernel) (fun _ h => absurd h List.not_mem_nil) (fun _ h => absurd h List.not_mem_nil)
theorem wcX6_meetsMoved : Cond.code yX6_meetsMoved cX6_meetsMoved 10 (some .boolean) ∈ xTB := (xt5 (List.mem_of_getElem? (i := 173) rfl) rfl)
theorem wiX6_meetsMoved : Cond.instanceMethod yX6_meetsMoved ∈ xTB := (xt5 (List.mem_of_getElem? (i := 171) rfl) rfl)
theorem weX6_meetsMoved : Cond.selects RX6 yX6_meetsMoved yX6_meetsMoved ∈ xTB := (xt5 (List.mem_of_getElem? (i := 172) rfl) rfl)
set_option maxRecDepth 100000 in
theorem kX6_meetsMoved {D : xD} : xC eX D yX6_meetsMoved cX6_meetsMoved 10 (some .boolean) 2 fX6_meetsMoved := xmet (own := RX6) xGl_ok xEcX_ok (by decide) rfl rk_2 (by decide +kernel) (List.forall_mem_cons.mpr ⟨foX6_11, fun _ h => absurd h List.not_mem_nil⟩) (List.forall_mem_cons.mpr ⟨xco_abs (by decide) (xt5 (List.mem_of_getElem? (i := 174) rfl) rfl), List.forall_mem_cons.mpr ⟨xco_max (by decide) (xt5 (List.mem_of_getElem? (i := 177) rfl) rfl), List.forall_mem_cons.mpr ⟨xco_min (by decide) (xt5 (List.mem_of_getElem? (i := 178) rfl) rfl), List.forall_mem_cons.mpr ⟨xco_S kX6_columns ⟨by decide, by decide⟩ (xt5 (List.mem_of_getElem? (i := 179) rfl) rfl) wiX6_columns xinX6 wcX6_columns (by decide +kernel), List.forall_mem_cons.mpr ⟨xco_S kX6_movePlane ⟨by decide, by decide⟩ (xt5 (List.mem_of_getElem? (i := 182) rfl) rfl) wiX6_movePlane xinX6 wcX6_movePlane (by decide +kernel), fun _ h => absurd h List.not_mem_nil⟩⟩⟩⟩⟩)
theorem wcX6_becomeMirror : Cond.code yX6_becomeMirror cX6_becomeMirror 6 none ∈ xTB := (xt6 (List.mem_of_getElem? (i := 90) rfl) rfl)
theorem wiX6_becomeMirror : Cond.instanceMethod yX6_becomeMirror ∈ xTB := (xt6 (List.mem_of_getElem? (i := 88) rfl) rfl)
theorem weX6_becomeMirror : Cond.selects RX6 yX6_becomeMirror yX6_becomeMirror ∈ xTB := (xt6 (List.mem_of_getElem? (i := 89) rfl) rfl)
set_option maxRecDepth 100000 in
theorem kX6_becomeMirror {D : xD} : xC eX D yX6_becomeMirror cX6_becomeMirror 6 none 3 fX6_becomeMirror := xmet (own := RX6) xGl_ok xEcX_ok (by decide) rfl rk_0 (by decide +kernel) (fun _ h => absurd h List.not_mem_nil) (List.forall_mem_cons.mpr ⟨xco_V xEcX_ok kX6_wipe ⟨by decide, by decide⟩ rfl rfl (xt6 (List.mem_of_getElem? (i := 91) rfl) rfl) wiX6_wipe weX6_wipe xinX6 wcX6_wipe (by decide +kernel), List.forall_mem_cons.mpr ⟨xco_V xEcX_ok kX6_has ⟨by decide, by decide⟩ rfl rfl (xt6 (List.mem_of_getElem? (i := 92) rfl) rfl) wiX6_has weX6_has xinX6 wcX6_has (by decide +kernel), List.forall_mem_cons.mpr ⟨xco_V xEcX_ok kX6_put ⟨by decide, by decide⟩ rfl rfl (xt6 (List.mem_of_getElem? (i := 93) rfl) rfl) wiX6_put weX6_put xinX6 wcX6_put (by decide +kernel), fun _ h => absurd h List.not_mem_nil⟩⟩⟩)
theorem wcX6_settle : Cond.code yX6_settle cX6_settle 4 none ∈ xTB := (xt6 (List.mem_of_getElem? (i := 97) rfl) rfl)
theorem wiX6_settle : Cond.instanceMethod yX6_settle ∈ xTB := (xt6 (List.mem_of_getElem? (i := 95) rfl) rfl)
theorem weX6_settle : Cond.selects RX6 yX6_settle yX6_settle ∈ xTB := (xt6 (List.mem_of_getElem? (i := 96) rfl) rfl)
set_option maxRecDepth 100000 in
theorem kX6_settle {D : xD} : xC eX D yX6_settle cX6_settle 4 none 3 fX6_settle := xmet (own := RX6) xGl_ok xEcX_ok (by decide) rfl rk_0 (by decide +kernel) (fun _ h => absurd h List.not_mem_nil) (List.forall_mem_cons.mpr ⟨xco_V xEcX_ok kX6_shadow ⟨by decide, by decide⟩ rfl rfl (xt6 (List.mem_of_getElem? (i := 98) rfl) rfl) wiX6_shadow weX6_shadow xinX6 wcX6_shadow (by decide +kernel), List.forall_mem_cons.mpr ⟨xco_S kX6_lowest ⟨by decide, by decide⟩ (xt6 (List.mem_of_getElem? (i := 99) rfl) rfl) wiX6_lowest xinX6 wcX6_lowest (by decide +kernel), List.forall_mem_cons.mpr ⟨xco_V xEcX_ok kX6_step ⟨by decide, by decide⟩ rfl rfl (xt6 (List.mem_of_getElem? (i := 100) rfl) rfl) wiX6_step weX6_step xinX6 wcX6_step (by decide +kernel), fun _ h => absurd h List.not_mem_nil⟩⟩⟩)
theorem wcX7_hasOnLine : Cond.code yX7_hasOnLine cX7_hasOnLine 6 (some .boolean) ∈ xTB := (xt5 (List.mem_of_getElem? (i := 125) rfl) rfl)
theorem wiX7_hasOnLine : Cond.static yX7_hasOnLine ∈ xTB := (xt5 (List.mem_of_getElem? (i := 124) rfl) rfl)
set_option maxRecDepth 100000 in
theorem kX7_hasOnLine {D : xD} : xC eX D yX7_hasOnLine cX7_hasOnLine 6 (some .boolean) 3 fX7_hasOnLine := xmet (own := RX7) xGl_ok xEcX_ok (by decide) rfl rk_2 (by decide +kernel) (fun _ h => absurd h List.not_mem_nil) (List.forall_mem_cons.mpr ⟨xco_V xEcX_ok kX6_has ⟨by decide, by decide⟩ rfl rfl (xt5 (List.mem_of_getElem? (i := 126) rfl) rfl) wiX6_has weX6_has xinX6 wcX6_has (by decide +kernel), fun _ h => absurd h List.not_mem_nil⟩)
theorem wcX7_findFronts : Cond.code yX7_findFronts cX7_findFronts 6 none ∈ xTB := (xt5 (List.mem_of_getElem? (i := 120) rfl) rfl)
theorem wiX7_findFronts : Cond.static yX7_findFronts ∈ xTB := (xt5 (List.mem_of_getElem? (i := 119) rfl) rfl)
set_option maxRecDepth 100000 in
theorem kX7_findFronts {D : xD} : xC eX D yX7_findFronts cX7_findFronts 6 none 4 fX7_findFronts := xmet (own := RX7) xGl_ok xEcX_ok (by decide) rfl rk_0 (by decide +kernel) (fun _ h => absurd h List.not_mem_nil) (List.forall_mem_cons.mpr ⟨xco_N kX11_signOf ⟨by decide, by decide⟩ (List.mem_of_getElem? (i := 24) rfl) wiX11_signOf xinX11 wcX11_signOf (by decide +kernel), List.forall_mem_cons.mpr ⟨xco_N kX11_axisOf ⟨by decide, by decide⟩ (List.mem_of_getElem? (i := 25) rfl) wiX11_axisOf xinX11 wcX11_axisOf (by decide +kernel), List.forall_mem_cons.mpr ⟨xco_S kX7_hasOnLine ⟨by decide, by decide⟩ (xt5 (List.mem_of_getElem? (i := 123) rfl) rfl) wiX7_hasOnLine xinX7 wcX7_hasOnLine (by decide +kernel), fun _ h => absurd h List.not_mem_nil⟩⟩⟩)
theorem wcX7_linesSeen : Cond.code yX7_linesSeen cX7_linesSeen 4 (some .int) ∈ xTB := (xt5 (List.mem_of_getElem? (i := 117) rfl) rfl)
theorem wiX7_linesSeen : Cond.instanceMethod yX7_linesSeen ∈ xTB := (xt5 (List.mem_of_getElem? (i := 115) rfl) rfl)
theorem weX7_linesSeen : Cond.selects RX7 yX7_linesSeen yX7_linesSeen ∈ xTB := (xt5 (List.mem_of_getElem? (i := 116) rfl) rfl)
theorem foX7_27 : xfo RX7 (27, 7, 5, 2) := ⟨RX7, TX7, 12, rfl, by decide, Or.inl (xt2 (List.mem_of_getElem? (i := 93) rfl) rfl), rfl, rfl, fun h => absurd rfl h⟩
theorem foX7_31 : xfo RX7 (31, 7, 6, 2) := ⟨RX7, TX7, 12, rfl, by decide, Or.inl (xt2 (List.mem_of_getElem? (i := 94) rfl) rfl), rfl, rfl, fun h => absurd rfl h⟩
set_option maxRecDepth 100000 in
theorem kX7_linesSeen {D : xD} : xC eX D yX7_linesSeen cX7_linesSeen 4 (some .int) 5 fX7_linesSeen := xmet (own := RX7) xGl_ok xEcX_ok (by decide) rfl rk_1 (by decide +kernel) (List.forall_mem_cons.mpr ⟨foX7_14, List.forall_mem_cons.mpr ⟨foX7_18, List.forall_mem_cons.mpr ⟨foX7_27, List.forall_mem_cons.mpr ⟨foX7_31, fun _ h => absurd h List.not_mem_nil⟩⟩⟩⟩) (List.forall_mem_cons.mpr ⟨xco_S kX7_findFronts ⟨by decide, by decide⟩ (xt5 (List.mem_of_getElem? (i := 118) rfl) rfl) wiX7_findFronts xinX7 wcX7_findFronts (by decide +kernel), fun _ h => absurd h List.not_mem_nil⟩)
theorem wcX7_bestSide : Cond.code yX7_bestSide cX7_bestSide 5 (some .int) ∈ xTB := (xt5 (List.mem_of_getElem? (i := 113) rfl) rfl)
theorem wiX7_bestSide : Cond.instanceMethod yX7_bestSide ∈ xTB := (xt5 (List.mem_of_getElem? (i := 111) rfl) rfl)
theorem weX7_bestSide : Cond.selects RX7 yX7_bestSide yX7_bestSide ∈ xTB := (xt5 (List.mem_of_getElem? (i := 112) rfl) rfl)
set_option maxRecDepth 100000 in
theorem kX7_bestSide {D : xD} : xC eX D yX7_bestSide cX7_bestSide 5 (some .int) 6 fX7_bestSide := xmet (own := RX7) xGl_ok xEcX_ok (by decide) rfl rk_1 (by decide +kernel) (fun _ h => absurd h List.not_mem_nil) (List.forall_mem_cons.mpr ⟨xco_V xEcX_ok kX7_linesSeen ⟨by decide, by decide⟩ rfl rfl (xt5 (List.mem_of_getElem? (i := 114) rfl) rfl) wiX7_linesSeen weX7_linesSeen xinX7 wcX7_linesSeen (by decide +kernel), fun _ h => absurd h List.not_mem_nil⟩)
theorem wcX7_frontOfHalf : Cond.code yX7_frontOfHalf cX7_frontOfHalf 4 (some .int) ∈ xTB := (xt6 (List.mem_of_getElem? (i := 77) rfl) rfl)
theorem wiX7_frontOfHalf : Cond.instanceMethod yX7_frontOfHalf ∈ xTB := (xt6 (List.mem_of_getElem? (i := 76) rfl) rfl)
theorem weX7_frontOfHalf : Cond.selects RX7 yX7_frontOfHalf yX7_frontOfHalf ∈ xTB := xp3 (q := (yX7_frontOfHalf, 12)) (List.mem_of_getElem? (i := 15) rfl)
set_option maxRecDepth 100000 in
theorem kX7_frontOfHalf {D : xD} : xC eX D yX7_frontOfHalf cX7_frontOfHalf 4 (some .int) 1 fX7_frontOfHalf := xmet (own := RX7) xGl_ok xEcX_ok (by decide) rfl rk_1 (by decide +kernel) (List.forall_mem_cons.mpr ⟨foX7_27, fun _ h => absurd h List.not_mem_nil⟩) (fun _ h => absurd h List.not_mem_nil)
theorem wcX7_isClear : Cond.code yX7_isClear cX7_isClear 12 (some .boolean) ∈ xTB := (xt6 (List.mem_of_getElem? (i := 73) rfl) rfl)
theorem wiX7_isClear : Cond.instanceMethod yX7_isClear ∈ xTB := (xt6 (List.mem_of_getElem? (i := 72) rfl) rfl)
theorem weX7_isClear : Cond.selects RX7 yX7_isClear yX7_isClear ∈ xTB := xp3 (q := (yX7_isClear, 12)) (List.mem_of_getElem? (i := 14) rfl)
set_option maxRecDepth 100000 in
theorem kX7_isClear {D : xD} : xC eX D yX7_isClear cX7_isClear 12 (some .boolean) 2 fX7_isClear := xmet (own := RX7) xGl_ok xEcX_ok (by decide) rfl rk_2 (by decide +kernel) (List.forall_mem_cons.mpr ⟨foX7_31, fun _ h => absurd h List.not_mem_nil⟩) (List.forall_mem_cons.mpr ⟨xco_N kX11_axisOf ⟨by decide, by decide⟩ (List.mem_of_getElem? (i := 25) rfl) wiX11_axisOf xinX11 wcX11_axisOf (by decide +kernel), List.forall_mem_cons.mpr ⟨xco_N kX11_signOf ⟨by decide, by decide⟩ (List.mem_of_getElem? (i := 24) rfl) wiX11_signOf xinX11 wcX11_signOf (by decide +kernel), List.forall_mem_cons.mpr ⟨xco_V xEcX_ok kX7_frontOfHalf ⟨by decide, by decide⟩ rfl rfl (xt6 (List.mem_of_getElem? (i := 74) rfl) rfl) wiX7_frontOfHalf weX7_frontOfHalf xinX7 wcX7_frontOfHalf (by decide +kernel), fun _ h => absurd h List.not_mem_nil⟩⟩⟩)
theorem wcX7_leastPull : Cond.code yX7_leastPull cX7_leastPull 4 (some .int) ∈ xTB := (xt6 (List.mem_of_getElem? (i := 69) rfl) rfl)
theorem wiX7_leastPull : Cond.instanceMethod yX7_leastPull ∈ xTB := (xt6 (List.mem_of_getElem? (i := 67) rfl) rfl)
theorem weX7_leastPull : Cond.selects RX7 yX7_leastPull yX7_leastPull ∈ xTB := (xt6 (List.mem_of_getElem? (i := 68) rfl) rfl)
set_option maxRecDepth 100000 in
theorem kX7_leastPull {D : xD} : xC eX D yX7_leastPull cX7_leastPull 4 (some .int) 5 fX7_leastPull := xmet (own := RX7) xGl_ok xEcX_ok (by decide) rfl rk_1 (by decide +kernel) (List.forall_mem_cons.mpr ⟨foX7_14, List.forall_mem_cons.mpr ⟨foX7_18, List.forall_mem_cons.mpr ⟨foX7_27, List.forall_mem_cons.mpr ⟨foX7_31, fun _ h => absurd h List.not_mem_nil⟩⟩⟩⟩) (List.forall_mem_cons.mpr ⟨xco_S kX7_findFronts ⟨by decide, by decide⟩ (xt5 (List.mem_of_getElem? (i := 118) rfl) rfl) wiX7_findFronts xinX7 wcX7_findFronts (by decide +kernel), List.forall_mem_cons.mpr ⟨xco_N kX11_signOf ⟨by decide, by decide⟩ (List.mem_of_getElem? (i := 24) rfl) wiX11_signOf xinX11 wcX11_signOf (by decide +kernel), List.forall_mem_cons.mpr ⟨xco_V xEcX_ok kX7_isClear ⟨by decide, by decide⟩ rfl rfl (xt6 (List.mem_of_getElem? (i := 70) rfl) rfl) wiX7_isClear weX7_isClear xinX7 wcX7_isClear (by decide +kernel), fun _ h => absurd h List.not_mem_nil⟩⟩⟩)
theorem wcJ7_fill_d0a16 : Cond.code yJ7_fill_d0a16 cJ7_fill_d0a16 5 none ∈ xTB := (xt5 (List.mem_of_getElem? (i := 138) rfl) rfl)
theorem wiJ7_fill_d0a16 : Cond.static yJ7_fill_d0a16 ∈ xTB := (xt5 (List.mem_of_getElem? (i := 137) rfl) rfl)
set_option maxRecDepth 100000 in
theorem kJ7_fill_d0a16 {D : xD} : xC eX D yJ7_fill_d0a16 cJ7_fill_d0a16 5 none 1 fJ7_fill_d0a16 := xmet (own := RJ7) xGl_ok xEcX_ok (by decide) rfl rk_0 (by decide +kernel) (fun _ h => absurd h List.not_mem_nil) (fun _ h => absurd h List.not_mem_nil)
theorem wcX7_mark : Cond.code yX7_mark cX7_mark 2 none ∈ xTB := (xt5 (List.mem_of_getElem? (i := 141) rfl) rfl)
theorem wiX7_mark : Cond.static yX7_mark ∈ xTB := (xt5 (List.mem_of_getElem? (i := 140) rfl) rfl)
set_option maxRecDepth 100000 in
theorem kX7_mark {D : xD} : xC eX D yX7_mark cX7_mark 2 none 1 fX7_mark := xmet (own := RX7) xGl_ok xEcX_ok (by decide) rfl rk_0 (by decide +kernel) (fun _ h => absurd h List.not_mem_nil) (fun _ h => absurd h List.not_mem_nil)
theorem wcX7_takeLevel : Cond.code yX7_takeLevel cX7_takeLevel 3 (some .boolean) ∈ xTB := (xt5 (List.mem_of_getElem? (i := 145) rfl) rfl)
theorem wiX7_takeLevel : Cond.instanceMethod yX7_takeLevel ∈ xTB := (xt5 (List.mem_of_getElem? (i := 144) rfl) rfl)
theorem weX7_takeLevel : Cond.selects RX7 yX7_takeLevel yX7_takeLevel ∈ xTB := xp3 (q := (yX7_takeLevel, 12)) (List.mem_of_getElem? (i := 1) rfl)
theorem foX7_44 : xfo RX7 (44, 7, 10, 2) := ⟨RX7, TX7, 12, rfl, by decide, Or.inl (xt2 (List.mem_of_getElem? (i := 98) rfl) rfl), rfl, rfl, fun h => absurd rfl h⟩
theorem foX7_47 : xfo RX7 (47, 7, 11, 2) := ⟨RX7, TX7, 12, rfl, by decide, Or.inl (xt2 (List.mem_of_getElem? (i := 99) rfl) rfl), rfl, rfl, fun h => absurd rfl h⟩
set_option maxRecDepth 100000 in
theorem kX7_takeLevel {D : xD} : xC eX D yX7_takeLevel cX7_takeLevel 3 (some .boolean) 1 fX7_takeLevel := xmet (own := RX7) xGl_ok xEcX_ok (by decide) rfl rk_2 (by decide +kernel) (List.forall_mem_cons.mpr ⟨foX7_44, List.forall_mem_cons.mpr ⟨foX7_47, fun _ h => absurd h List.not_mem_nil⟩⟩) (fun _ h => absurd h List.not_mem_nil)
theorem wcX7_isMarked : Cond.code yX7_isMarked cX7_isMarked 2 (some .boolean) ∈ xTB := (xt5 (List.mem_of_getElem? (i := 152) rfl) rfl)
theorem wiX7_isMarked : Cond.static yX7_isMarked ∈ xTB := (xt5 (List.mem_of_getElem? (i := 151) rfl) rfl)
set_option maxRecDepth 100000 in
theorem kX7_isMarked {D : xD} : xC eX D yX7_isMarked cX7_isMarked 2 (some .boolean) 1 fX7_isMarked := xmet (own := RX7) xGl_ok xEcX_ok (by decide) rfl rk_2 (by decide +kernel) (fun _ h => absurd h List.not_mem_nil) (fun _ h => absurd h List.not_mem_nil)
theorem wcX7_offsetAt : Cond.code yX7_offsetAt cX7_offsetAt 3 (some .int) ∈ xTB := (xt5 (List.mem_of_getElem? (i := 162) rfl) rfl)
theorem wiX7_offsetAt : Cond.static yX7_offsetAt ∈ xTB := (xt5 (List.mem_of_getElem? (i := 161) rfl) rfl)
set_option maxRecDepth 100000 in
theorem kX7_offsetAt {D : xD} : xC eX D yX7_offsetAt cX7_offsetAt 3 (some .int) 1 fX7_offsetAt := xmet (own := RX7) xGl_ok xEcX_ok (by decide) rfl rk_1 (by decide +kernel) (fun _ h => absurd h List.not_mem_nil) (fun _ h => absurd h List.not_mem_nil)
theorem wcX7_stepsLeft : Cond.code yX7_stepsLeft cX7_stepsLeft 2 (some .int) ∈ xTB := (xt5 (List.mem_of_getElem? (i := 159) rfl) rfl)
theorem wiX7_stepsLeft : Cond.static yX7_stepsLeft ∈ xTB := (xt5 (List.mem_of_getElem? (i := 158) rfl) rfl)
set_option maxRecDepth 100000 in
theorem kX7_stepsLeft {D : xD} : xC eX D yX7_stepsLeft cX7_stepsLeft 2 (some .int) 2 fX7_stepsLeft := xmet (own := RX7) xGl_ok xEcX_ok (by decide) rfl rk_1 (by decide +kernel) (fun _ h => absurd h List.not_mem_nil) (List.forall_mem_cons.mpr ⟨xco_N kX11_signOf ⟨by decide, by decide⟩ (List.mem_of_getElem? (i := 24) rfl) wiX11_signOf xinX11 wcX11_signOf (by decide +kernel), List.forall_mem_cons.mpr ⟨xco_N kX11_axisOf ⟨by decide, by decide⟩ (List.mem_of_getElem? (i := 25) rfl) wiX11_axisOf xinX11 wcX11_axisOf (by decide +kernel), List.forall_mem_cons.mpr ⟨xco_S kX7_offsetAt ⟨by decide, by decide⟩ (xt5 (List.mem_of_getElem? (i := 160) rfl) rfl) wiX7_offsetAt xinX7 wcX7_offsetAt (by decide +kernel), fun _ h => absurd h List.not_mem_nil⟩⟩⟩)
theorem wcX7_strideOf : Cond.code yX7_strideOf cX7_strideOf 2 (some .int) ∈ xTB := (xt5 (List.mem_of_getElem? (i := 165) rfl) rfl)
theorem wiX7_strideOf : Cond.static yX7_strideOf ∈ xTB := (xt5 (List.mem_of_getElem? (i := 164) rfl) rfl)
set_option maxRecDepth 100000 in
theorem kX7_strideOf {D : xD} : xC eX D yX7_strideOf cX7_strideOf 2 (some .int) 2 fX7_strideOf := xmet (own := RX7) xGl_ok xEcX_ok (by decide) rfl rk_1 (by decide +kernel) (fun _ h => absurd h List.not_mem_nil) (List.forall_mem_cons.mpr ⟨xco_N kX11_axisOf ⟨by decide, by decide⟩ (List.mem_of_getElem? (i := 25) rfl) wiX11_axisOf xinX11 wcX11_axisOf (by decide +kernel), List.forall_mem_cons.mpr ⟨xco_N kX11_signOf ⟨by decide, by decide⟩ (List.mem_of_getElem? (i := 24) rfl) wiX11_signOf xinX11 wcX11_signOf (by decide +kernel), fun _ h => absurd h List.not_mem_nil⟩⟩)
theorem wcX7_isFree : Cond.code yX7_isFree cX7_isFree 2 (some .boolean) ∈ xTB := (xt5 (List.mem_of_getElem? (i := 169) rfl) rfl)
theorem wiX7_isFree : Cond.instanceMethod yX7_isFree ∈ xTB := (xt5 (List.mem_of_getElem? (i := 168) rfl) rfl)
theorem weX7_isFree : Cond.selects RX7 yX7_isFree yX7_isFree ∈ xTB := xp3 (q := (yX7_isFree, 12)) (List.mem_of_getElem? (i := 4) rfl)
theorem foX7_34 : xfo RX7 (34, 7, 7, 2) := ⟨RX7, TX7, 12, rfl, by decide, Or.inl (xt2 (List.mem_of_getElem? (i := 95) rfl) rfl), rfl, rfl, fun h => absurd rfl h⟩
theorem foX7_38 : xfo RX7 (38, 7, 8, 2) := ⟨RX7, TX7, 12, rfl, by decide, Or.inl (xt2 (List.mem_of_getElem? (i := 96) rfl) rfl), rfl, rfl, fun h => absurd rfl h⟩
set_option maxRecDepth 100000 in
theorem kX7_isFree {D : xD} : xC eX D yX7_isFree cX7_isFree 2 (some .boolean) 3 fX7_isFree := xmet (own := RX7) xGl_ok xEcX_ok (by decide) rfl rk_2 (by decide +kernel) (List.forall_mem_cons.mpr ⟨foX7_14, List.forall_mem_cons.mpr ⟨foX7_18, List.forall_mem_cons.mpr ⟨foX7_34, List.forall_mem_cons.mpr ⟨foX7_38, fun _ h => absurd h List.not_mem_nil⟩⟩⟩⟩) (List.forall_mem_cons.mpr ⟨xco_S kX7_isMarked ⟨by decide, by decide⟩ (xt5 (List.mem_of_getElem? (i := 150) rfl) rfl) wiX7_isMarked xinX7 wcX7_isMarked (by decide +kernel), List.forall_mem_cons.mpr ⟨xco_S kX7_mark ⟨by decide, by decide⟩ (xt5 (List.mem_of_getElem? (i := 139) rfl) rfl) wiX7_mark xinX7 wcX7_mark (by decide +kernel), List.forall_mem_cons.mpr ⟨xco_S kX7_offsetAt ⟨by decide, by decide⟩ (xt5 (List.mem_of_getElem? (i := 160) rfl) rfl) wiX7_offsetAt xinX7 wcX7_offsetAt (by decide +kernel), List.forall_mem_cons.mpr ⟨xco_V xEcX_ok kX6_meetsMoved ⟨by decide, by decide⟩ rfl rfl (xt5 (List.mem_of_getElem? (i := 170) rfl) rfl) wiX6_meetsMoved weX6_meetsMoved xinX6 wcX6_meetsMoved (by decide +kernel), fun _ h => absurd h List.not_mem_nil⟩⟩⟩⟩)
theorem wcX7_isOpen : Cond.code yX7_isOpen cX7_isOpen 5 (some .boolean) ∈ xTB := (xt5 (List.mem_of_getElem? (i := 156) rfl) rfl)
theorem wiX7_isOpen : Cond.instanceMethod yX7_isOpen ∈ xTB := (xt5 (List.mem_of_getElem? (i := 155) rfl) rfl)
theorem weX7_isOpen : Cond.selects RX7 yX7_isOpen yX7_isOpen ∈ xTB := xp3 (q := (yX7_isOpen, 12)) (List.mem_of_getElem? (i := 3) rfl)
set_option maxRecDepth 100000 in
theorem kX7_isOpen {D : xD} : xC eX D yX7_isOpen cX7_isOpen 5 (some .boolean) 4 fX7_isOpen := xmet (own := RX7) xGl_ok xEcX_ok (by decide) rfl rk_2 (by decide +kernel) (fun _ h => absurd h List.not_mem_nil) (List.forall_mem_cons.mpr ⟨xco_S kX7_stepsLeft ⟨by decide, by decide⟩ (xt5 (List.mem_of_getElem? (i := 157) rfl) rfl) wiX7_stepsLeft xinX7 wcX7_stepsLeft (by decide +kernel), List.forall_mem_cons.mpr ⟨xco_S kX7_strideOf ⟨by decide, by decide⟩ (xt5 (List.mem_of_getElem? (i := 163) rfl) rfl) wiX7_strideOf xinX7 wcX7_strideOf (by decide +kernel), List.forall_mem_cons.mpr ⟨xco_V xEcX_ok kX7_isFree ⟨by decide, by decide⟩ rfl rfl (xt5 (List.mem_of_getElem? (i := 166) rfl) rfl) wiX7_isFree weX7_isFree xinX7 wcX7_isFree (by decide +kernel), fun _ h => absurd h List.not_mem_nil⟩⟩⟩)
