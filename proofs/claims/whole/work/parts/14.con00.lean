/-! Contracts of all methods -/
theorem xp1 {q : MethodName × Nat} (h : q ∈ lw_privs_1) : Cond.selects q.1.cls q.1 q.1 ∈ xTB := xtp (List.mem_map.mpr ⟨q, show q ∈ lw_privs from List.mem_append_left _ h, rfl⟩) rfl
theorem xp2 {q : MethodName × Nat} (h : q ∈ lw_privs_2) : Cond.selects q.1.cls q.1 q.1 ∈ xTB := xtp (List.mem_map.mpr ⟨q, show q ∈ lw_privs from List.mem_append_right _ (List.mem_append_left _ h), rfl⟩) rfl
theorem xp3 {q : MethodName × Nat} (h : q ∈ lw_privs_3) : Cond.selects q.1.cls q.1 q.1 ∈ xTB := xtp (List.mem_map.mpr ⟨q, show q ∈ lw_privs from List.mem_append_right _ (List.mem_append_right _ (List.mem_append_left _ h)), rfl⟩) rfl
theorem xp4 {q : MethodName × Nat} (h : q ∈ lw_privs_4) : Cond.selects q.1.cls q.1 q.1 ∈ xTB := xtp (List.mem_map.mpr ⟨q, show q ∈ lw_privs from List.mem_append_right _ (List.mem_append_right _ (List.mem_append_right _ (List.mem_append_left _ h))), rfl⟩) rfl
theorem xp5 {q : MethodName × Nat} (h : q ∈ lw_privs_5) : Cond.selects q.1.cls q.1 q.1 ∈ xTB := xtp (List.mem_map.mpr ⟨q, show q ∈ lw_privs from List.mem_append_right _ (List.mem_append_right _ (List.mem_append_right _ (List.mem_append_right _ (List.mem_append_left _ h)))), rfl⟩) rfl
theorem xp6 {q : MethodName × Nat} (h : q ∈ lw_privs_6) : Cond.selects q.1.cls q.1 q.1 ∈ xTB := xtp (List.mem_map.mpr ⟨q, show q ∈ lw_privs from List.mem_append_right _ (List.mem_append_right _ (List.mem_append_right _ (List.mem_append_right _ (List.mem_append_right _ (List.mem_append_left _ h))))), rfl⟩) rfl
theorem xp7 {q : MethodName × Nat} (h : q ∈ lw_privs_7) : Cond.selects q.1.cls q.1 q.1 ∈ xTB := xtp (List.mem_map.mpr ⟨q, show q ∈ lw_privs from List.mem_append_right _ (List.mem_append_right _ (List.mem_append_right _ (List.mem_append_right _ (List.mem_append_right _ (List.mem_append_right _ (h)))))), rfl⟩) rfl
theorem rk_0 : ((0 : Nat) = 0 → (none : Option FieldType) = none) ∧ ((0 : Nat) = 1 → (none : Option FieldType) = some .int) ∧ ((0 : Nat) = 2 → (none : Option FieldType) = some .boolean) ∧ ((0 : Nat) = 3 → (none : Option FieldType) = some .long) := ⟨fun _ => rfl, fun h => (by cases h), fun h => (by cases h), fun h => (by cases h)⟩
theorem rk_1 : ((1 : Nat) = 0 → some FieldType.int = none) ∧ ((1 : Nat) = 1 → some FieldType.int = some .int) ∧ ((1 : Nat) = 2 → some FieldType.int = some .boolean) ∧ ((1 : Nat) = 3 → some FieldType.int = some .long) := ⟨fun h => (by cases h), fun _ => rfl, fun h => (by cases h), fun h => (by cases h)⟩
theorem rk_2 : ((2 : Nat) = 0 → some FieldType.boolean = none) ∧ ((2 : Nat) = 1 → some FieldType.boolean = some .int) ∧ ((2 : Nat) = 2 → some FieldType.boolean = some .boolean) ∧ ((2 : Nat) = 3 → some FieldType.boolean = some .long) := ⟨fun h => (by cases h), fun h => (by cases h), fun _ => rfl, fun h => (by cases h)⟩
theorem rk_3 : ((3 : Nat) = 0 → some FieldType.long = none) ∧ ((3 : Nat) = 1 → some FieldType.long = some .int) ∧ ((3 : Nat) = 2 → some FieldType.long = some .boolean) ∧ ((3 : Nat) = 3 → some FieldType.long = some .long) := ⟨fun h => (by cases h), fun h => (by cases h), fun h => (by cases h), fun _ => rfl⟩
theorem xinJ13 : Cond.initialized RJ13 ∈ xTB := (xt1 (List.mem_of_getElem? (i := 21) rfl) rfl)
theorem xinJ6 : Cond.initialized RJ6 ∈ xTB := (xt1 (List.mem_of_getElem? (i := 20) rfl) rfl)
theorem xinJ7 : Cond.initialized RJ7 ∈ xTB := (xt1 (List.mem_of_getElem? (i := 14) rfl) rfl)
theorem xinX0 : Cond.initialized RX0 ∈ xTB := (xt1 (List.mem_of_getElem? (i := 9) rfl) rfl)
theorem xinX1 : Cond.initialized RX1 ∈ xTB := (xt1 (List.mem_of_getElem? (i := 12) rfl) rfl)
theorem xinX10 : Cond.initialized RX10 ∈ xTB := (xt1 (List.mem_of_getElem? (i := 8) rfl) rfl)
theorem xinX11 : Cond.initialized RX11 ∈ xTB := (xt1 (List.mem_of_getElem? (i := 1) rfl) rfl)
theorem xinX12 : Cond.initialized RX12 ∈ xTB := (xt1 (List.mem_of_getElem? (i := 13) rfl) rfl)
theorem xinX2 : Cond.initialized RX2 ∈ xTB := (xt1 (List.mem_of_getElem? (i := 10) rfl) rfl)
theorem xinX3 : Cond.initialized RX3 ∈ xTB := (xt1 (List.mem_of_getElem? (i := 7) rfl) rfl)
theorem xinX4 : Cond.initialized RX4 ∈ xTB := (xt1 (List.mem_of_getElem? (i := 6) rfl) rfl)
theorem xinX5 : Cond.initialized RX5 ∈ xTB := (xt1 (List.mem_of_getElem? (i := 3) rfl) rfl)
theorem xinX6 : Cond.initialized RX6 ∈ xTB := (xt1 (List.mem_of_getElem? (i := 4) rfl) rfl)
theorem xinX7 : Cond.initialized RX7 ∈ xTB := (xt1 (List.mem_of_getElem? (i := 11) rfl) rfl)
theorem xinX8 : Cond.initialized RX8 ∈ xTB := (xt1 (List.mem_of_getElem? (i := 2) rfl) rfl)
theorem xinX9 : Cond.initialized RX9 ∈ xTB := (xt1 (List.mem_of_getElem? (i := 5) rfl) rfl)
theorem wcX0_stale : Cond.code yX0_stale cX0_stale 1 none ∈ xTB := (xt3 (List.mem_of_getElem? (i := 216) rfl) rfl)
theorem wiX0_stale : Cond.instanceMethod yX0_stale ∈ xTB := (xt3 (List.mem_of_getElem? (i := 214) rfl) rfl)
theorem weX0_stale : Cond.selects RX0 yX0_stale yX0_stale ∈ xTB := (xt3 (List.mem_of_getElem? (i := 215) rfl) rfl)
theorem foX0_31 : xfo RX0 (31, 0, 6, 3) := ⟨RX0, TX0, 7, rfl, by decide, Or.inl (xt2 (List.mem_of_getElem? (i := 24) rfl) rfl), rfl, rfl, fun h => rfl⟩
set_option maxRecDepth 100000 in
theorem kX0_stale {D : xD} : xC eX D yX0_stale cX0_stale 1 none 1 fX0_stale := xmet (own := RX0) xGl_ok xEcX_ok (by decide) rfl rk_0 (by decide +kernel) (List.forall_mem_cons.mpr ⟨foX0_31, fun _ h => absurd h List.not_mem_nil⟩) (fun _ h => absurd h List.not_mem_nil)
theorem wcX6_shadow : Cond.code yX6_shadow cX6_shadow 8 (some .int) ∈ xTB := (xt4 (List.mem_of_getElem? (i := 118) rfl) rfl)
theorem wiX6_shadow : Cond.instanceMethod yX6_shadow ∈ xTB := (xt4 (List.mem_of_getElem? (i := 116) rfl) rfl)
theorem weX6_shadow : Cond.selects RX6 yX6_shadow yX6_shadow ∈ xTB := (xt4 (List.mem_of_getElem? (i := 117) rfl) rfl)
theorem foX6_11 : xfo RX6 (11, 6, 0, 2) := ⟨RX6, TX6, 1, rfl, by decide, Or.inl (xt1 (List.mem_of_getElem? (i := 82) rfl) rfl), rfl, rfl, fun h => absurd rfl h⟩
set_option maxRecDepth 100000 in
theorem kX6_shadow {D : xD} : xC eX D yX6_shadow cX6_shadow 8 (some .int) 1 fX6_shadow := xmet (own := RX6) xGl_ok xEcX_ok (by decide) rfl rk_1 (by decide +kernel) (List.forall_mem_cons.mpr ⟨foX6_11, fun _ h => absurd h List.not_mem_nil⟩) (fun _ h => absurd h List.not_mem_nil)
theorem wcX6_lowest : Cond.code yX6_lowest cX6_lowest 2 (some .int) ∈ xTB := (xt4 (List.mem_of_getElem? (i := 123) rfl) rfl)
theorem wiX6_lowest : Cond.static yX6_lowest ∈ xTB := (xt4 (List.mem_of_getElem? (i := 122) rfl) rfl)
set_option maxRecDepth 100000 in
theorem kX6_lowest {D : xD} : xC eX D yX6_lowest cX6_lowest 2 (some .int) 1 fX6_lowest := xmet (own := RX6) xGl_ok xEcX_ok (by decide) rfl rk_1 (by decide +kernel) (fun _ h => absurd h List.not_mem_nil) (fun _ h => absurd h List.not_mem_nil)
theorem wcX6_copy : Cond.code yX6_copy cX6_copy 3 none ∈ xTB := (xt3 (List.mem_of_getElem? (i := 125) rfl) rfl)
theorem wiX6_copy : Cond.instanceMethod yX6_copy ∈ xTB := (xt3 (List.mem_of_getElem? (i := 123) rfl) rfl)
theorem weX6_copy : Cond.selects RX6 yX6_copy yX6_copy ∈ xTB := (xt3 (List.mem_of_getElem? (i := 124) rfl) rfl)
set_option maxRecDepth 100000 in
theorem kX6_copy {D : xD} : xC eX D yX6_copy cX6_copy 3 none 1 fX6_copy := xmet (own := RX6) xGl_ok xEcX_ok (by decide) rfl rk_0 (by decide +kernel) (List.forall_mem_cons.mpr ⟨foX6_11, fun _ h => absurd h List.not_mem_nil⟩) (fun _ h => absurd h List.not_mem_nil)
theorem wcX6_stepPlane : Cond.code yX6_stepPlane cX6_stepPlane 3 (some .long) ∈ xTB := (xt3 (List.mem_of_getElem? (i := 236) rfl) rfl)
theorem wiX6_stepPlane : Cond.static yX6_stepPlane ∈ xTB := (xt3 (List.mem_of_getElem? (i := 235) rfl) rfl)
set_option maxRecDepth 100000 in
theorem kX6_stepPlane {D : xD} : xC eX D yX6_stepPlane cX6_stepPlane 3 (some .long) 1 fX6_stepPlane := xmet (own := RX6) xGl_ok xEcX_ok (by decide) rfl rk_3 (by decide +kernel) (fun _ h => absurd h List.not_mem_nil) (fun _ h => absurd h List.not_mem_nil)
theorem wcX6_step : Cond.code yX6_step cX6_step 3 none ∈ xTB := (xt3 (List.mem_of_getElem? (i := 233) rfl) rfl)
theorem wiX6_step : Cond.instanceMethod yX6_step ∈ xTB := (xt3 (List.mem_of_getElem? (i := 231) rfl) rfl)
theorem weX6_step : Cond.selects RX6 yX6_step yX6_step ∈ xTB := (xt3 (List.mem_of_getElem? (i := 232) rfl) rfl)
set_option maxRecDepth 100000 in
theorem kX6_step {D : xD} : xC eX D yX6_step cX6_step 3 none 2 fX6_step := xmet (own := RX6) xGl_ok xEcX_ok (by decide) rfl rk_0 (by decide +kernel) (List.forall_mem_cons.mpr ⟨foX6_11, fun _ h => absurd h List.not_mem_nil⟩) (List.forall_mem_cons.mpr ⟨xco_S kX6_stepPlane ⟨by decide, by decide⟩ (xt3 (List.mem_of_getElem? (i := 234) rfl) rfl) wiX6_stepPlane xinX6 wcX6_stepPlane (by decide +kernel), fun _ h => absurd h List.not_mem_nil⟩)
theorem wcX6_meets : Cond.code yX6_meets cX6_meets 3 (some .boolean) ∈ xTB := (xt4 (List.mem_of_getElem? (i := 20) rfl) rfl)
theorem wiX6_meets : Cond.instanceMethod yX6_meets ∈ xTB := (xt4 (List.mem_of_getElem? (i := 18) rfl) rfl)
theorem weX6_meets : Cond.selects RX6 yX6_meets yX6_meets ∈ xTB := (xt4 (List.mem_of_getElem? (i := 19) rfl) rfl)
set_option maxRecDepth 100000 in
theorem kX6_meets {D : xD} : xC eX D yX6_meets cX6_meets 3 (some .boolean) 1 fX6_meets := xmet (own := RX6) xGl_ok xEcX_ok (by decide) rfl rk_2 (by decide +kernel) (List.forall_mem_cons.mpr ⟨foX6_11, fun _ h => absurd h List.not_mem_nil⟩) (fun _ h => absurd h List.not_mem_nil)
theorem wcX0_findUnder : Cond.code yX0_findUnder cX0_findUnder 3 none ∈ xTB := (xt4 (List.mem_of_getElem? (i := 114) rfl) rfl)
theorem wiX0_findUnder : Cond.instanceMethod yX0_findUnder ∈ xTB := (xt4 (List.mem_of_getElem? (i := 113) rfl) rfl)
theorem weX0_findUnder : Cond.selects RX0 yX0_findUnder yX0_findUnder ∈ xTB := xp1 (q := (yX0_findUnder, 7)) (List.mem_of_getElem? (i := 15) rfl)
theorem foX0_12 : xfo RX0 (12, 0, 1, 2) := ⟨RX0, TX0, 7, rfl, by decide, Or.inl (xt2 (List.mem_of_getElem? (i := 16) rfl) rfl), rfl, rfl, fun h => absurd rfl h⟩
theorem foX0_18 : xfo RX0 (18, 0, 2, 2) := ⟨RX0, TX0, 7, rfl, by decide, Or.inl (xt2 (List.mem_of_getElem? (i := 17) rfl) rfl), rfl, rfl, fun h => absurd rfl h⟩
theorem foX0_22 : xfo RX0 (22, 0, 3, 2) := ⟨RX0, TX0, 7, rfl, by decide, Or.inl (xt2 (List.mem_of_getElem? (i := 18) rfl) rfl), rfl, rfl, fun h => absurd rfl h⟩
theorem foX0_35 : xfo RX0 (35, 0, 0, 2) := ⟨RX0, TX0, 7, rfl, by decide, Or.inl (xt2 (List.mem_of_getElem? (i := 15) rfl) rfl), rfl, rfl, fun h => absurd rfl h⟩
theorem foX0_68 : xfo RX0 (68, 5, 0, 0) := ⟨RX5, TX5, 10, rfl, by decide, Or.inl (xt1 (List.mem_of_getElem? (i := 93) rfl) rfl), rfl, rfl, fun h => rfl⟩
theorem foX0_72 : xfo RX0 (72, 5, 5, 2) := ⟨RX5, TX5, 10, rfl, by decide, Or.inr ⟨List.mem_of_getElem? (i := 0) rfl, rfl⟩, rfl, rfl, fun h => absurd rfl h⟩
set_option maxRecDepth 100000 in
theorem kX0_findUnder {D : xD} : xC eX D yX0_findUnder cX0_findUnder 3 none 3 fX0_findUnder := xmet (own := RX0) xGl_ok xEcX_ok (by decide) rfl rk_0 (by decide +kernel) (List.forall_mem_cons.mpr ⟨foX0_12, List.forall_mem_cons.mpr ⟨foX0_18, List.forall_mem_cons.mpr ⟨foX0_22, List.forall_mem_cons.mpr ⟨foX0_35, List.forall_mem_cons.mpr ⟨foX0_68, List.forall_mem_cons.mpr ⟨foX0_72, fun _ h => absurd h List.not_mem_nil⟩⟩⟩⟩⟩⟩) (List.forall_mem_cons.mpr ⟨xco_V xEcX_ok kX6_shadow ⟨by decide, by decide⟩ rfl rfl (xt4 (List.mem_of_getElem? (i := 115) rfl) rfl) wiX6_shadow weX6_shadow xinX6 wcX6_shadow (by decide +kernel), List.forall_mem_cons.mpr ⟨xco_S kX6_lowest ⟨by decide, by decide⟩ (xt4 (List.mem_of_getElem? (i := 121) rfl) rfl) wiX6_lowest xinX6 wcX6_lowest (by decide +kernel), List.forall_mem_cons.mpr ⟨xco_V xEcX_ok kX6_copy ⟨by decide, by decide⟩ rfl rfl (xt4 (List.mem_of_getElem? (i := 124) rfl) rfl) wiX6_copy weX6_copy xinX6 wcX6_copy (by decide +kernel), List.forall_mem_cons.mpr ⟨xco_V xEcX_ok kX6_step ⟨by decide, by decide⟩ rfl rfl (xt4 (List.mem_of_getElem? (i := 125) rfl) rfl) wiX6_step weX6_step xinX6 wcX6_step (by decide +kernel), List.forall_mem_cons.mpr ⟨xco_V xEcX_ok kX6_meets ⟨by decide, by decide⟩ rfl rfl (xt4 (List.mem_of_getElem? (i := 126) rfl) rfl) wiX6_meets weX6_meets xinX6 wcX6_meets (by decide +kernel), fun _ h => absurd h List.not_mem_nil⟩⟩⟩⟩⟩)
theorem wcX5_whole : Cond.code yX5_whole cX5_whole 1 (some .int) ∈ xTB := (xt4 (List.mem_of_getElem? (i := 28) rfl) rfl)
theorem wiX5_whole : Cond.instanceMethod yX5_whole ∈ xTB := (xt4 (List.mem_of_getElem? (i := 26) rfl) rfl)
theorem weX5_whole : Cond.selects RX5 yX5_whole yX5_whole ∈ xTB := (xt4 (List.mem_of_getElem? (i := 27) rfl) rfl)
theorem foX5_9 : xfo RX5 (9, 5, 0, 0) := ⟨RX5, TX5, 10, rfl, by decide, Or.inl (xt1 (List.mem_of_getElem? (i := 89) rfl) rfl), rfl, rfl, fun h => rfl⟩
set_option maxRecDepth 100000 in
theorem kX5_whole {D : xD} : xC eX D yX5_whole cX5_whole 1 (some .int) 1 fX5_whole := xmet (own := RX5) xGl_ok xEcX_ok (by decide) rfl rk_1 (by decide +kernel) (List.forall_mem_cons.mpr ⟨foX5_9, fun _ h => absurd h List.not_mem_nil⟩) (fun _ h => absurd h List.not_mem_nil)
theorem wcX0_floorOf : Cond.code yX0_floorOf cX0_floorOf 4 (some .int) ∈ xTB := (xt4 (List.mem_of_getElem? (i := 131) rfl) rfl)
theorem wiX0_floorOf : Cond.instanceMethod yX0_floorOf ∈ xTB := (xt4 (List.mem_of_getElem? (i := 130) rfl) rfl)
theorem weX0_floorOf : Cond.selects RX0 yX0_floorOf yX0_floorOf ∈ xTB := xp2 (q := (yX0_floorOf, 7)) (List.mem_of_getElem? (i := 0) rfl)
set_option maxRecDepth 100000 in
theorem kX0_floorOf {D : xD} : xC eX D yX0_floorOf cX0_floorOf 4 (some .int) 1 fX0_floorOf := xmet (own := RX0) xGl_ok xEcX_ok (by decide) rfl rk_1 (by decide +kernel) (List.forall_mem_cons.mpr ⟨foX0_22, List.forall_mem_cons.mpr ⟨foX0_35, List.forall_mem_cons.mpr ⟨foX0_68, fun _ h => absurd h List.not_mem_nil⟩⟩⟩) (List.forall_mem_cons.mpr ⟨xco_min (by decide) (xt4 (List.mem_of_getElem? (i := 132) rfl) rfl), fun _ h => absurd h List.not_mem_nil⟩)
theorem wcX0_onFloor : Cond.code yX0_onFloor cX0_onFloor 5 (some .int) ∈ xTB := (xt4 (List.mem_of_getElem? (i := 138) rfl) rfl)
theorem wiX0_onFloor : Cond.instanceMethod yX0_onFloor ∈ xTB := (xt4 (List.mem_of_getElem? (i := 137) rfl) rfl)
theorem weX0_onFloor : Cond.selects RX0 yX0_onFloor yX0_onFloor ∈ xTB := xp2 (q := (yX0_onFloor, 7)) (List.mem_of_getElem? (i := 1) rfl)
set_option maxRecDepth 100000 in
theorem kX0_onFloor {D : xD} : xC eX D yX0_onFloor cX0_onFloor 5 (some .int) 1 fX0_onFloor := xmet (own := RX0) xGl_ok xEcX_ok (by decide) rfl rk_1 (by decide +kernel) (List.forall_mem_cons.mpr ⟨foX0_22, List.forall_mem_cons.mpr ⟨foX0_35, List.forall_mem_cons.mpr ⟨foX0_68, fun _ h => absurd h List.not_mem_nil⟩⟩⟩) (fun _ h => absurd h List.not_mem_nil)
theorem wcX0_allRest : Cond.code yX0_allRest cX0_allRest 6 (some .boolean) ∈ xTB := (xt4 (List.mem_of_getElem? (i := 146) rfl) rfl)
theorem wiX0_allRest : Cond.instanceMethod yX0_allRest ∈ xTB := (xt4 (List.mem_of_getElem? (i := 145) rfl) rfl)
theorem weX0_allRest : Cond.selects RX0 yX0_allRest yX0_allRest ∈ xTB := xp2 (q := (yX0_allRest, 7)) (List.mem_of_getElem? (i := 3) rfl)
set_option maxRecDepth 100000 in
theorem kX0_allRest {D : xD} : xC eX D yX0_allRest cX0_allRest 6 (some .boolean) 1 fX0_allRest := xmet (own := RX0) xGl_ok xEcX_ok (by decide) rfl rk_2 (by decide +kernel) (List.forall_mem_cons.mpr ⟨foX0_18, List.forall_mem_cons.mpr ⟨foX0_35, List.forall_mem_cons.mpr ⟨foX0_68, fun _ h => absurd h List.not_mem_nil⟩⟩⟩) (fun _ h => absurd h List.not_mem_nil)
theorem wcJ6_bitCount_0f7a4 : Cond.code yJ6_bitCount_0f7a4 cJ6_bitCount_0f7a4 1 (some .int) ∈ xTB := (xt4 (List.mem_of_getElem? (i := 152) rfl) rfl)
theorem wiJ6_bitCount_0f7a4 : Cond.static yJ6_bitCount_0f7a4 ∈ xTB := (xt4 (List.mem_of_getElem? (i := 151) rfl) rfl)
set_option maxRecDepth 100000 in
theorem kJ6_bitCount_0f7a4 {D : xD} : xC eX D yJ6_bitCount_0f7a4 cJ6_bitCount_0f7a4 1 (some .int) 1 fJ6_bitCount_0f7a4 := xmet (own := RJ6) xGl_ok xEcX_ok (by decide) rfl rk_1 (by decide +kernel) (fun _ h => absurd h List.not_mem_nil) (fun _ h => absurd h List.not_mem_nil)
theorem wcX11_halvesOf : Cond.code yX11_halvesOf cX11_halvesOf 1 (some .int) ∈ xTB := (xt4 (List.mem_of_getElem? (i := 149) rfl) rfl)
theorem wiX11_halvesOf : Cond.static yX11_halvesOf ∈ xTB := (xt4 (List.mem_of_getElem? (i := 148) rfl) rfl)
set_option maxRecDepth 100000 in
theorem kX11_halvesOf {D : xD} : xC eX D yX11_halvesOf cX11_halvesOf 1 (some .int) 2 fX11_halvesOf := xmet (own := RX11) xGl_ok xEcX_ok (by decide) rfl rk_1 (by decide +kernel) (fun _ h => absurd h List.not_mem_nil) (List.forall_mem_cons.mpr ⟨xco_S kJ6_bitCount_0f7a4 ⟨by decide, by decide⟩ (xt4 (List.mem_of_getElem? (i := 150) rfl) rfl) wiJ6_bitCount_0f7a4 xinJ6 wcJ6_bitCount_0f7a4 (by decide +kernel), fun _ h => absurd h List.not_mem_nil⟩)
theorem wcX11_nextHalf : Cond.code yX11_nextHalf cX11_nextHalf 2 (some .int) ∈ xTB := (xt4 (List.mem_of_getElem? (i := 158) rfl) rfl)
theorem wiX11_nextHalf : Cond.static yX11_nextHalf ∈ xTB := (xt4 (List.mem_of_getElem? (i := 157) rfl) rfl)
set_option maxRecDepth 100000 in
theorem kX11_nextHalf {D : xD} : xC eX D yX11_nextHalf cX11_nextHalf 2 (some .int) 1 fX11_nextHalf := xmet (own := RX11) xGl_ok xEcX_ok (by decide) rfl rk_1 (by decide +kernel) (fun _ h => absurd h List.not_mem_nil) (fun _ h => absurd h List.not_mem_nil)
theorem wcX0_findHeld : Cond.code yX0_findHeld cX0_findHeld 6 (some .int) ∈ xTB := (xt4 (List.mem_of_getElem? (i := 142) rfl) rfl)
theorem wiX0_findHeld : Cond.instanceMethod yX0_findHeld ∈ xTB := (xt4 (List.mem_of_getElem? (i := 141) rfl) rfl)
theorem weX0_findHeld : Cond.selects RX0 yX0_findHeld yX0_findHeld ∈ xTB := xp2 (q := (yX0_findHeld, 7)) (List.mem_of_getElem? (i := 2) rfl)
set_option maxRecDepth 100000 in
theorem kX0_findHeld {D : xD} : xC eX D yX0_findHeld cX0_findHeld 6 (some .int) 3 fX0_findHeld := xmet (own := RX0) xGl_ok xEcX_ok (by decide) rfl rk_1 (by decide +kernel) (fun _ h => absurd h List.not_mem_nil) (List.forall_mem_cons.mpr ⟨xco_V xEcX_ok kX0_allRest ⟨by decide, by decide⟩ rfl rfl (xt4 (List.mem_of_getElem? (i := 143) rfl) rfl) wiX0_allRest weX0_allRest xinX0 wcX0_allRest (by decide +kernel), List.forall_mem_cons.mpr ⟨xco_N kX11_halvesOf ⟨by decide, by decide⟩ (List.mem_of_getElem? (i := 6) rfl) wiX11_halvesOf xinX11 wcX11_halvesOf (by decide +kernel), List.forall_mem_cons.mpr ⟨xco_N kX11_nextHalf ⟨by decide, by decide⟩ (List.mem_of_getElem? (i := 7) rfl) wiX11_nextHalf xinX11 wcX11_nextHalf (by decide +kernel), List.forall_mem_cons.mpr ⟨xco_S kJ6_bitCount_0f7a4 ⟨by decide, by decide⟩ (xt4 (List.mem_of_getElem? (i := 159) rfl) rfl) wiJ6_bitCount_0f7a4 xinJ6 wcJ6_bitCount_0f7a4 (by decide +kernel), fun _ h => absurd h List.not_mem_nil⟩⟩⟩⟩)
theorem wcX6_wipe : Cond.code yX6_wipe cX6_wipe 2 none ∈ xTB := (xt3 (List.mem_of_getElem? (i := 9) rfl) rfl)
theorem wiX6_wipe : Cond.instanceMethod yX6_wipe ∈ xTB := (xt3 (List.mem_of_getElem? (i := 7) rfl) rfl)
theorem weX6_wipe : Cond.selects RX6 yX6_wipe yX6_wipe ∈ xTB := (xt3 (List.mem_of_getElem? (i := 8) rfl) rfl)
set_option maxRecDepth 100000 in
theorem kX6_wipe {D : xD} : xC eX D yX6_wipe cX6_wipe 2 none 1 fX6_wipe := xmet (own := RX6) xGl_ok xEcX_ok (by decide) rfl rk_0 (by decide +kernel) (List.forall_mem_cons.mpr ⟨foX6_11, fun _ h => absurd h List.not_mem_nil⟩) (fun _ h => absurd h List.not_mem_nil)
theorem wcX6_join : Cond.code yX6_join cX6_join 3 none ∈ xTB := (xt4 (List.mem_of_getElem? (i := 7) rfl) rfl)
theorem wiX6_join : Cond.instanceMethod yX6_join ∈ xTB := (xt4 (List.mem_of_getElem? (i := 5) rfl) rfl)
theorem weX6_join : Cond.selects RX6 yX6_join yX6_join ∈ xTB := (xt4 (List.mem_of_getElem? (i := 6) rfl) rfl)
set_option maxRecDepth 100000 in
theorem kX6_join {D : xD} : xC eX D yX6_join cX6_join 3 none 1 fX6_join := xmet (own := RX6) xGl_ok xEcX_ok (by decide) rfl rk_0 (by decide +kernel) (List.forall_mem_cons.mpr ⟨foX6_11, fun _ h => absurd h List.not_mem_nil⟩) (fun _ h => absurd h List.not_mem_nil)
theorem wcX5_collect : Cond.code yX5_collect cX5_collect 4 none ∈ xTB := (xt4 (List.mem_of_getElem? (i := 167) rfl) rfl)
theorem wiX5_collect : Cond.instanceMethod yX5_collect ∈ xTB := (xt4 (List.mem_of_getElem? (i := 165) rfl) rfl)
theorem weX5_collect : Cond.selects RX5 yX5_collect yX5_collect ∈ xTB := (xt4 (List.mem_of_getElem? (i := 166) rfl) rfl)
theorem foX5_32 : xfo RX5 (32, 5, 5, 2) := ⟨RX5, TX5, 10, rfl, by decide, Or.inl (xt1 (List.mem_of_getElem? (i := 108) rfl) rfl), rfl, rfl, fun h => absurd rfl h⟩
set_option maxRecDepth 100000 in
theorem kX5_collect {D : xD} : xC eX D yX5_collect cX5_collect 4 none 2 fX5_collect := xmet (own := RX5) xGl_ok xEcX_ok (by decide) rfl rk_0 (by decide +kernel) (List.forall_mem_cons.mpr ⟨foX5_9, List.forall_mem_cons.mpr ⟨foX5_32, fun _ h => absurd h List.not_mem_nil⟩⟩) (List.forall_mem_cons.mpr ⟨xco_V xEcX_ok kX6_wipe ⟨by decide, by decide⟩ rfl rfl (xt3 (List.mem_of_getElem? (i := 6) rfl) rfl) wiX6_wipe weX6_wipe xinX6 wcX6_wipe (by decide +kernel), List.forall_mem_cons.mpr ⟨xco_V xEcX_ok kX6_join ⟨by decide, by decide⟩ rfl rfl (xt4 (List.mem_of_getElem? (i := 168) rfl) rfl) wiX6_join weX6_join xinX6 wcX6_join (by decide +kernel), fun _ h => absurd h List.not_mem_nil⟩⟩)
theorem wcJ13_bitCount_95d88 : Cond.code yJ13_bitCount_95d88 cJ13_bitCount_95d88 2 (some .int) ∈ xTB := (xt4 (List.mem_of_getElem? (i := 175) rfl) rfl)
theorem wiJ13_bitCount_95d88 : Cond.static yJ13_bitCount_95d88 ∈ xTB := (xt4 (List.mem_of_getElem? (i := 174) rfl) rfl)
set_option maxRecDepth 100000 in
theorem kJ13_bitCount_95d88 {D : xD} : xC eX D yJ13_bitCount_95d88 cJ13_bitCount_95d88 2 (some .int) 1 fJ13_bitCount_95d88 := xmet (own := RJ13) xGl_ok xEcX_ok (by decide) rfl rk_1 (by decide +kernel) (fun _ h => absurd h List.not_mem_nil) (fun _ h => absurd h List.not_mem_nil)
theorem wcX6_count : Cond.code yX6_count cX6_count 3 (some .int) ∈ xTB := (xt4 (List.mem_of_getElem? (i := 172) rfl) rfl)
theorem wiX6_count : Cond.instanceMethod yX6_count ∈ xTB := (xt4 (List.mem_of_getElem? (i := 170) rfl) rfl)
theorem weX6_count : Cond.selects RX6 yX6_count yX6_count ∈ xTB := (xt4 (List.mem_of_getElem? (i := 171) rfl) rfl)
set_option maxRecDepth 100000 in
theorem kX6_count {D : xD} : xC eX D yX6_count cX6_count 3 (some .int) 2 fX6_count := xmet (own := RX6) xGl_ok xEcX_ok (by decide) rfl rk_1 (by decide +kernel) (List.forall_mem_cons.mpr ⟨foX6_11, fun _ h => absurd h List.not_mem_nil⟩) (List.forall_mem_cons.mpr ⟨xco_S kJ13_bitCount_95d88 ⟨by decide, by decide⟩ (xt4 (List.mem_of_getElem? (i := 173) rfl) rfl) wiJ13_bitCount_95d88 xinJ13 wcJ13_bitCount_95d88 (by decide +kernel), fun _ h => absurd h List.not_mem_nil⟩)
theorem wcX6_doubledSum : Cond.code yX6_doubledSum cX6_doubledSum 8 (some .int) ∈ xTB := (xt4 (List.mem_of_getElem? (i := 182) rfl) rfl)
theorem wiX6_doubledSum : Cond.instanceMethod yX6_doubledSum ∈ xTB := (xt4 (List.mem_of_getElem? (i := 180) rfl) rfl)
theorem weX6_doubledSum : Cond.selects RX6 yX6_doubledSum yX6_doubledSum ∈ xTB := (xt4 (List.mem_of_getElem? (i := 181) rfl) rfl)
set_option maxRecDepth 100000 in
theorem kX6_doubledSum {D : xD} : xC eX D yX6_doubledSum cX6_doubledSum 8 (some .int) 2 fX6_doubledSum := xmet (own := RX6) xGl_ok xEcX_ok (by decide) rfl rk_1 (by decide +kernel) (List.forall_mem_cons.mpr ⟨foX6_11, fun _ h => absurd h List.not_mem_nil⟩) (List.forall_mem_cons.mpr ⟨xco_S kJ13_bitCount_95d88 ⟨by decide, by decide⟩ (xt4 (List.mem_of_getElem? (i := 173) rfl) rfl) wiJ13_bitCount_95d88 xinJ13 wcJ13_bitCount_95d88 (by decide +kernel), fun _ h => absurd h List.not_mem_nil⟩)
theorem wcX6_keep : Cond.code yX6_keep cX6_keep 7 none ∈ xTB := (xt4 (List.mem_of_getElem? (i := 186) rfl) rfl)
theorem wiX6_keep : Cond.instanceMethod yX6_keep ∈ xTB := (xt4 (List.mem_of_getElem? (i := 184) rfl) rfl)
theorem weX6_keep : Cond.selects RX6 yX6_keep yX6_keep ∈ xTB := (xt4 (List.mem_of_getElem? (i := 185) rfl) rfl)
set_option maxRecDepth 100000 in
theorem kX6_keep {D : xD} : xC eX D yX6_keep cX6_keep 7 none 1 fX6_keep := xmet (own := RX6) xGl_ok xEcX_ok (by decide) rfl rk_0 (by decide +kernel) (List.forall_mem_cons.mpr ⟨foX6_11, fun _ h => absurd h List.not_mem_nil⟩) (fun _ h => absurd h List.not_mem_nil)
theorem wcX6_highest : Cond.code yX6_highest cX6_highest 2 (some .int) ∈ xTB := (xt4 (List.mem_of_getElem? (i := 192) rfl) rfl)
theorem wiX6_highest : Cond.static yX6_highest ∈ xTB := (xt4 (List.mem_of_getElem? (i := 191) rfl) rfl)
set_option maxRecDepth 100000 in
theorem kX6_highest {D : xD} : xC eX D yX6_highest cX6_highest 2 (some .int) 1 fX6_highest := xmet (own := RX6) xGl_ok xEcX_ok (by decide) rfl rk_1 (by decide +kernel) (fun _ h => absurd h List.not_mem_nil) (fun _ h => absurd h List.not_mem_nil)
theorem wcX0_falls : Cond.code yX0_falls cX0_falls 3 (some .boolean) ∈ xTB := (xt4 (List.mem_of_getElem? (i := 189) rfl) rfl)
theorem wiX0_falls : Cond.static yX0_falls ∈ xTB := (xt4 (List.mem_of_getElem? (i := 188) rfl) rfl)
set_option maxRecDepth 100000 in
theorem kX0_falls {D : xD} : xC eX D yX0_falls cX0_falls 3 (some .boolean) 2 fX0_falls := xmet (own := RX0) xGl_ok xEcX_ok (by decide) rfl rk_2 (by decide +kernel) (fun _ h => absurd h List.not_mem_nil) (List.forall_mem_cons.mpr ⟨xco_S kX6_lowest ⟨by decide, by decide⟩ (xt4 (List.mem_of_getElem? (i := 121) rfl) rfl) wiX6_lowest xinX6 wcX6_lowest (by decide +kernel), List.forall_mem_cons.mpr ⟨xco_S kX6_highest ⟨by decide, by decide⟩ (xt4 (List.mem_of_getElem? (i := 190) rfl) rfl) wiX6_highest xinX6 wcX6_highest (by decide +kernel), fun _ h => absurd h List.not_mem_nil⟩⟩)
theorem wcX0_tips : Cond.code yX0_tips cX0_tips 6 (some .boolean) ∈ xTB := (xt4 (List.mem_of_getElem? (i := 163) rfl) rfl)
theorem wiX0_tips : Cond.instanceMethod yX0_tips ∈ xTB := (xt4 (List.mem_of_getElem? (i := 162) rfl) rfl)
theorem weX0_tips : Cond.selects RX0 yX0_tips yX0_tips ∈ xTB := xp2 (q := (yX0_tips, 7)) (List.mem_of_getElem? (i := 4) rfl)
set_option maxRecDepth 100000 in
theorem kX0_tips {D : xD} : xC eX D yX0_tips cX0_tips 6 (some .boolean) 3 fX0_tips := xmet (own := RX0) xGl_ok xEcX_ok (by decide) rfl rk_2 (by decide +kernel) (List.forall_mem_cons.mpr ⟨foX0_12, List.forall_mem_cons.mpr ⟨foX0_35, fun _ h => absurd h List.not_mem_nil⟩⟩) (List.forall_mem_cons.mpr ⟨xco_V xEcX_ok kX5_collect ⟨by decide, by decide⟩ rfl rfl (xt4 (List.mem_of_getElem? (i := 164) rfl) rfl) wiX5_collect weX5_collect xinX5 wcX5_collect (by decide +kernel), List.forall_mem_cons.mpr ⟨xco_V xEcX_ok kX6_count ⟨by decide, by decide⟩ rfl rfl (xt4 (List.mem_of_getElem? (i := 169) rfl) rfl) wiX6_count weX6_count xinX6 wcX6_count (by decide +kernel), List.forall_mem_cons.mpr ⟨xco_V xEcX_ok kX6_doubledSum ⟨by decide, by decide⟩ rfl rfl (xt4 (List.mem_of_getElem? (i := 179) rfl) rfl) wiX6_doubledSum weX6_doubledSum xinX6 wcX6_doubledSum (by decide +kernel), List.forall_mem_cons.mpr ⟨xco_V xEcX_ok kX6_keep ⟨by decide, by decide⟩ rfl rfl (xt4 (List.mem_of_getElem? (i := 183) rfl) rfl) wiX6_keep weX6_keep xinX6 wcX6_keep (by decide +kernel), List.forall_mem_cons.mpr ⟨xco_V xEcX_ok kX6_shadow ⟨by decide, by decide⟩ rfl rfl (xt4 (List.mem_of_getElem? (i := 115) rfl) rfl) wiX6_shadow weX6_shadow xinX6 wcX6_shadow (by decide +kernel), List.forall_mem_cons.mpr ⟨xco_S kX0_falls ⟨by decide, by decide⟩ (xt4 (List.mem_of_getElem? (i := 187) rfl) rfl) wiX0_falls xinX0 wcX0_falls (by decide +kernel), fun _ h => absurd h List.not_mem_nil⟩⟩⟩⟩⟩⟩)
theorem wcX0_refresh : Cond.code yX0_refresh cX0_refresh 3 none ∈ xTB := (xt4 (List.mem_of_getElem? (i := 110) rfl) rfl)
theorem wiX0_refresh : Cond.instanceMethod yX0_refresh ∈ xTB := (xt4 (List.mem_of_getElem? (i := 108) rfl) rfl)
theorem weX0_refresh : Cond.selects RX0 yX0_refresh yX0_refresh ∈ xTB := (xt4 (List.mem_of_getElem? (i := 109) rfl) rfl)
theorem foX0_25 : xfo RX0 (25, 0, 4, 2) := ⟨RX0, TX0, 7, rfl, by decide, Or.inl (xt2 (List.mem_of_getElem? (i := 19) rfl) rfl), rfl, rfl, fun h => absurd rfl h⟩
theorem foX0_28 : xfo RX0 (28, 0, 5, 2) := ⟨RX0, TX0, 7, rfl, by decide, Or.inl (xt2 (List.mem_of_getElem? (i := 21) rfl) rfl), rfl, rfl, fun h => absurd rfl h⟩
set_option maxRecDepth 100000 in
theorem kX0_refresh {D : xD} : xC eX D yX0_refresh cX0_refresh 3 none 4 fX0_refresh := xmet (own := RX0) xGl_ok xEcX_ok (by decide) rfl rk_0 (by decide +kernel) (List.forall_mem_cons.mpr ⟨foX0_25, List.forall_mem_cons.mpr ⟨foX0_28, List.forall_mem_cons.mpr ⟨foX0_31, List.forall_mem_cons.mpr ⟨foX0_35, fun _ h => absurd h List.not_mem_nil⟩⟩⟩⟩) (List.forall_mem_cons.mpr ⟨xco_V xEcX_ok kX0_findUnder ⟨by decide, by decide⟩ rfl rfl (xt4 (List.mem_of_getElem? (i := 111) rfl) rfl) wiX0_findUnder weX0_findUnder xinX0 wcX0_findUnder (by decide +kernel), List.forall_mem_cons.mpr ⟨xco_V xEcX_ok kX5_whole ⟨by decide, by decide⟩ rfl rfl (xt4 (List.mem_of_getElem? (i := 127) rfl) rfl) wiX5_whole weX5_whole xinX5 wcX5_whole (by decide +kernel), List.forall_mem_cons.mpr ⟨xco_V xEcX_ok kX0_floorOf ⟨by decide, by decide⟩ rfl rfl (xt4 (List.mem_of_getElem? (i := 128) rfl) rfl) wiX0_floorOf weX0_floorOf xinX0 wcX0_floorOf (by decide +kernel), List.forall_mem_cons.mpr ⟨xco_V xEcX_ok kX0_onFloor ⟨by decide, by decide⟩ rfl rfl (xt4 (List.mem_of_getElem? (i := 135) rfl) rfl) wiX0_onFloor weX0_onFloor xinX0 wcX0_onFloor (by decide +kernel), List.forall_mem_cons.mpr ⟨xco_V xEcX_ok kX0_findHeld ⟨by decide, by decide⟩ rfl rfl (xt4 (List.mem_of_getElem? (i := 139) rfl) rfl) wiX0_findHeld weX0_findHeld xinX0 wcX0_findHeld (by decide +kernel), List.forall_mem_cons.mpr ⟨xco_S kJ6_bitCount_0f7a4 ⟨by decide, by decide⟩ (xt4 (List.mem_of_getElem? (i := 159) rfl) rfl) wiJ6_bitCount_0f7a4 xinJ6 wcJ6_bitCount_0f7a4 (by decide +kernel), List.forall_mem_cons.mpr ⟨xco_V xEcX_ok kX0_tips ⟨by decide, by decide⟩ rfl rfl (xt4 (List.mem_of_getElem? (i := 160) rfl) rfl) wiX0_tips weX0_tips xinX0 wcX0_tips (by decide +kernel), fun _ h => absurd h List.not_mem_nil⟩⟩⟩⟩⟩⟩⟩)
theorem wcX0_tipping : Cond.code yX0_tipping cX0_tipping 2 (some .int) ∈ xTB := (xt4 (List.mem_of_getElem? (i := 196) rfl) rfl)
theorem wiX0_tipping : Cond.instanceMethod yX0_tipping ∈ xTB := (xt4 (List.mem_of_getElem? (i := 194) rfl) rfl)
theorem weX0_tipping : Cond.selects RX0 yX0_tipping yX0_tipping ∈ xTB := (xt4 (List.mem_of_getElem? (i := 195) rfl) rfl)
set_option maxRecDepth 100000 in
theorem kX0_tipping {D : xD} : xC eX D yX0_tipping cX0_tipping 2 (some .int) 2 fX0_tipping := xmet (own := RX0) xGl_ok xEcX_ok (by decide) rfl rk_1 (by decide +kernel) (List.forall_mem_cons.mpr ⟨foX0_25, List.forall_mem_cons.mpr ⟨foX0_28, fun _ h => absurd h List.not_mem_nil⟩⟩) (List.forall_mem_cons.mpr ⟨xco_S kJ6_bitCount_0f7a4 ⟨by decide, by decide⟩ (xt4 (List.mem_of_getElem? (i := 159) rfl) rfl) wiJ6_bitCount_0f7a4 xinJ6 wcJ6_bitCount_0f7a4 (by decide +kernel), fun _ h => absurd h List.not_mem_nil⟩)
theorem wcX1_stale : Cond.code yX1_stale cX1_stale 1 none ∈ xTB := (xt4 (List.mem_of_getElem? (i := 44) rfl) rfl)
theorem wiX1_stale : Cond.instanceMethod yX1_stale ∈ xTB := (xt4 (List.mem_of_getElem? (i := 42) rfl) rfl)
theorem weX1_stale : Cond.selects RX1 yX1_stale yX1_stale ∈ xTB := (xt4 (List.mem_of_getElem? (i := 43) rfl) rfl)
theorem foX1_31 : xfo RX1 (31, 1, 6, 3) := ⟨RX1, TX1, 11, rfl, by decide, Or.inl (xt2 (List.mem_of_getElem? (i := 141) rfl) rfl), rfl, rfl, fun h => rfl⟩
theorem foX1_35 : xfo RX1 (35, 1, 7, 3) := ⟨RX1, TX1, 11, rfl, by decide, Or.inl (xt2 (List.mem_of_getElem? (i := 142) rfl) rfl), rfl, rfl, fun h => rfl⟩
set_option maxRecDepth 100000 in
theorem kX1_stale {D : xD} : xC eX D yX1_stale cX1_stale 1 none 1 fX1_stale := xmet (own := RX1) xGl_ok xEcX_ok (by decide) rfl rk_0 (by decide +kernel) (List.forall_mem_cons.mpr ⟨foX1_31, List.forall_mem_cons.mpr ⟨foX1_35, fun _ h => absurd h List.not_mem_nil⟩⟩) (fun _ h => absurd h List.not_mem_nil)
theorem wcX11_isOne : Cond.code yX11_isOne cX11_isOne 1 (some .boolean) ∈ xTB := (xt4 (List.mem_of_getElem? (i := 212) rfl) rfl)
theorem wiX11_isOne : Cond.static yX11_isOne ∈ xTB := (xt4 (List.mem_of_getElem? (i := 211) rfl) rfl)
set_option maxRecDepth 100000 in
theorem kX11_isOne {D : xD} : xC eX D yX11_isOne cX11_isOne 1 (some .boolean) 1 fX11_isOne := xmet (own := RX11) xGl_ok xEcX_ok (by decide) rfl rk_2 (by decide +kernel) (fun _ h => absurd h List.not_mem_nil) (fun _ h => absurd h List.not_mem_nil)
theorem wcX5_stuckJoint : Cond.code yX5_stuckJoint cX5_stuckJoint 5 (some .int) ∈ xTB := (xt4 (List.mem_of_getElem? (i := 100) rfl) rfl)
theorem wiX5_stuckJoint : Cond.instanceMethod yX5_stuckJoint ∈ xTB := (xt4 (List.mem_of_getElem? (i := 98) rfl) rfl)
theorem weX5_stuckJoint : Cond.selects RX5 yX5_stuckJoint yX5_stuckJoint ∈ xTB := (xt4 (List.mem_of_getElem? (i := 99) rfl) rfl)
theorem foX5_15 : xfo RX5 (15, 5, 1, 0) := ⟨RX5, TX5, 10, rfl, by decide, Or.inl (xt1 (List.mem_of_getElem? (i := 96) rfl) rfl), rfl, rfl, fun h => rfl⟩
theorem foX5_39 : xfo RX5 (39, 5, 7, 2) := ⟨RX5, TX5, 10, rfl, by decide, Or.inl (xt1 (List.mem_of_getElem? (i := 113) rfl) rfl), rfl, rfl, fun h => absurd rfl h⟩
theorem foX5_42 : xfo RX5 (42, 5, 8, 2) := ⟨RX5, TX5, 10, rfl, by decide, Or.inl (xt1 (List.mem_of_getElem? (i := 114) rfl) rfl), rfl, rfl, fun h => absurd rfl h⟩
set_option maxRecDepth 100000 in
theorem kX5_stuckJoint {D : xD} : xC eX D yX5_stuckJoint cX5_stuckJoint 5 (some .int) 1 fX5_stuckJoint := xmet (own := RX5) xGl_ok xEcX_ok (by decide) rfl rk_1 (by decide +kernel) (List.forall_mem_cons.mpr ⟨foX5_15, List.forall_mem_cons.mpr ⟨foX5_39, List.forall_mem_cons.mpr ⟨foX5_42, fun _ h => absurd h List.not_mem_nil⟩⟩⟩) (fun _ h => absurd h List.not_mem_nil)
theorem wcX10_goodWays : Cond.code yX10_goodWays cX10_goodWays 8 (some .int) ∈ xTB := (xt4 (List.mem_of_getElem? (i := 225) rfl) rfl)
theorem wiX10_goodWays : Cond.instanceMethod yX10_goodWays ∈ xTB := (xt4 (List.mem_of_getElem? (i := 223) rfl) rfl)
theorem weX10_goodWays : Cond.selects RX10 yX10_goodWays yX10_goodWays ∈ xTB := (xt4 (List.mem_of_getElem? (i := 224) rfl) rfl)
theorem foX10_25 : xfo RX10 (25, 10, 4, 2) := ⟨RX10, TX10, 7, rfl, by decide, Or.inl (xt1 (List.mem_of_getElem? (i := 229) rfl) rfl), rfl, rfl, fun h => absurd rfl h⟩
theorem foX10_36 : xfo RX10 (36, 10, 0, 2) := ⟨RX10, TX10, 7, rfl, by decide, Or.inl (xt1 (List.mem_of_getElem? (i := 225) rfl) rfl), rfl, rfl, fun h => absurd rfl h⟩
set_option maxRecDepth 100000 in
theorem kX10_goodWays {D : xD} : xC eX D yX10_goodWays cX10_goodWays 8 (some .int) 2 fX10_goodWays := xmet (own := RX10) xGl_ok xEcX_ok (by decide) rfl rk_1 (by decide +kernel) (List.forall_mem_cons.mpr ⟨foX10_25, List.forall_mem_cons.mpr ⟨foX10_36, fun _ h => absurd h List.not_mem_nil⟩⟩) (List.forall_mem_cons.mpr ⟨xco_V xEcX_ok kX5_stuckJoint ⟨by decide, by decide⟩ rfl rfl (xt4 (List.mem_of_getElem? (i := 97) rfl) rfl) wiX5_stuckJoint weX5_stuckJoint xinX5 wcX5_stuckJoint (by decide +kernel), fun _ h => absurd h List.not_mem_nil⟩)
theorem wcX1_tryRounds : Cond.code yX1_tryRounds cX1_tryRounds 5 none ∈ xTB := (xt5 (List.mem_of_getElem? (i := 6) rfl) rfl)
theorem wiX1_tryRounds : Cond.instanceMethod yX1_tryRounds ∈ xTB := (xt5 (List.mem_of_getElem? (i := 5) rfl) rfl)
theorem weX1_tryRounds : Cond.selects RX1 yX1_tryRounds yX1_tryRounds ∈ xTB := xp2 (q := (yX1_tryRounds, 11)) (List.mem_of_getElem? (i := 10) rfl)
theorem foX1_15 : xfo RX1 (15, 1, 1, 2) := ⟨RX1, TX1, 11, rfl, by decide, Or.inl (xt2 (List.mem_of_getElem? (i := 133) rfl) rfl), rfl, rfl, fun h => absurd rfl h⟩
set_option maxRecDepth 100000 in
theorem kX1_tryRounds {D : xD} : xC eX D yX1_tryRounds cX1_tryRounds 5 none 1 fX1_tryRounds := xmet (own := RX1) xGl_ok xEcX_ok (by decide) rfl rk_0 (by decide +kernel) (List.forall_mem_cons.mpr ⟨foX1_15, fun _ h => absurd h List.not_mem_nil⟩) (List.forall_mem_cons.mpr ⟨xco_max (by decide) (xt5 (List.mem_of_getElem? (i := 7) rfl) rfl), fun _ h => absurd h List.not_mem_nil⟩)
theorem wcX1_fillPartings : Cond.code yX1_fillPartings cX1_fillPartings 5 none ∈ xTB := (xt4 (List.mem_of_getElem? (i := 238) rfl) rfl)
theorem wiX1_fillPartings : Cond.instanceMethod yX1_fillPartings ∈ xTB := (xt4 (List.mem_of_getElem? (i := 237) rfl) rfl)
theorem weX1_fillPartings : Cond.selects RX1 yX1_fillPartings yX1_fillPartings ∈ xTB := xp2 (q := (yX1_fillPartings, 11)) (List.mem_of_getElem? (i := 9) rfl)
theorem foX1_9 : xfo RX1 (9, 1, 0, 2) := ⟨RX1, TX1, 11, rfl, by decide, Or.inl (xt2 (List.mem_of_getElem? (i := 131) rfl) rfl), rfl, rfl, fun h => absurd rfl h⟩
theorem foX1_42 : xfo RX1 (42, 1, 9, 2) := ⟨RX1, TX1, 11, rfl, by decide, Or.inl (xt2 (List.mem_of_getElem? (i := 144) rfl) rfl), rfl, rfl, fun h => absurd rfl h⟩
set_option maxRecDepth 100000 in
theorem kX1_fillPartings {D : xD} : xC eX D yX1_fillPartings cX1_fillPartings 5 none 3 fX1_fillPartings := xmet (own := RX1) xGl_ok xEcX_ok (by decide) rfl rk_0 (by decide +kernel) (List.forall_mem_cons.mpr ⟨foX1_9, List.forall_mem_cons.mpr ⟨foX1_15, List.forall_mem_cons.mpr ⟨foX1_42, fun _ h => absurd h List.not_mem_nil⟩⟩⟩) (List.forall_mem_cons.mpr ⟨xco_N kX11_isOne ⟨by decide, by decide⟩ (List.mem_of_getElem? (i := 9) rfl) wiX11_isOne xinX11 wcX11_isOne (by decide +kernel), List.forall_mem_cons.mpr ⟨xco_N kX11_halvesOf ⟨by decide, by decide⟩ (List.mem_of_getElem? (i := 10) rfl) wiX11_halvesOf xinX11 wcX11_halvesOf (by decide +kernel), List.forall_mem_cons.mpr ⟨xco_N kX11_nextHalf ⟨by decide, by decide⟩ (List.mem_of_getElem? (i := 11) rfl) wiX11_nextHalf xinX11 wcX11_nextHalf (by decide +kernel), List.forall_mem_cons.mpr ⟨xco_V xEcX_ok kX10_goodWays ⟨by decide, by decide⟩ rfl rfl (xt5 (List.mem_of_getElem? (i := 2) rfl) rfl) wiX10_goodWays weX10_goodWays xinX10 wcX10_goodWays (by decide +kernel), List.forall_mem_cons.mpr ⟨xco_V xEcX_ok kX1_tryRounds ⟨by decide, by decide⟩ rfl rfl (xt5 (List.mem_of_getElem? (i := 3) rfl) rfl) wiX1_tryRounds weX1_tryRounds xinX1 wcX1_tryRounds (by decide +kernel), fun _ h => absurd h List.not_mem_nil⟩⟩⟩⟩⟩)
theorem wcJ7_fill_53178 : Cond.code yJ7_fill_53178 cJ7_fill_53178 4 none ∈ xTB := (xt3 (List.mem_of_getElem? (i := 5) rfl) rfl)
theorem wiJ7_fill_53178 : Cond.static yJ7_fill_53178 ∈ xTB := (xt3 (List.mem_of_getElem? (i := 4) rfl) rfl)
set_option maxRecDepth 100000 in
theorem kJ7_fill_53178 {D : xD} : xC eX D yJ7_fill_53178 cJ7_fill_53178 4 none 1 fJ7_fill_53178 := xmet (own := RJ7) xGl_ok xEcX_ok (by decide) rfl rk_0 (by decide +kernel) (fun _ h => absurd h List.not_mem_nil) (fun _ h => absurd h List.not_mem_nil)
theorem wcX1_isLive : Cond.code yX1_isLive cX1_isLive 2 (some .boolean) ∈ xTB := (xt5 (List.mem_of_getElem? (i := 22) rfl) rfl)
theorem wiX1_isLive : Cond.instanceMethod yX1_isLive ∈ xTB := (xt5 (List.mem_of_getElem? (i := 20) rfl) rfl)
theorem weX1_isLive : Cond.selects RX1 yX1_isLive yX1_isLive ∈ xTB := (xt5 (List.mem_of_getElem? (i := 21) rfl) rfl)
theorem foX1_24 : xfo RX1 (24, 1, 4, 2) := ⟨RX1, TX1, 11, rfl, by decide, Or.inl (xt2 (List.mem_of_getElem? (i := 139) rfl) rfl), rfl, rfl, fun h => absurd rfl h⟩
set_option maxRecDepth 100000 in
theorem kX1_isLive {D : xD} : xC eX D yX1_isLive cX1_isLive 2 (some .boolean) 1 fX1_isLive := xmet (own := RX1) xGl_ok xEcX_ok (by decide) rfl rk_2 (by decide +kernel) (List.forall_mem_cons.mpr ⟨foX1_24, fun _ h => absurd h List.not_mem_nil⟩) (fun _ h => absurd h List.not_mem_nil)
theorem wcX1_markHalves : Cond.code yX1_markHalves cX1_markHalves 7 none ∈ xTB := (xt5 (List.mem_of_getElem? (i := 18) rfl) rfl)
theorem wiX1_markHalves : Cond.instanceMethod yX1_markHalves ∈ xTB := (xt5 (List.mem_of_getElem? (i := 17) rfl) rfl)
theorem weX1_markHalves : Cond.selects RX1 yX1_markHalves yX1_markHalves ∈ xTB := xp2 (q := (yX1_markHalves, 11)) (List.mem_of_getElem? (i := 12) rfl)
theorem foX1_96 : xfo RX1 (96, 2, 0, 2) := ⟨RX2, TX2, 9, rfl, by decide, Or.inl (xt2 (List.mem_of_getElem? (i := 47) rfl) rfl), rfl, rfl, fun h => absurd rfl h⟩
set_option maxRecDepth 100000 in
theorem kX1_markHalves {D : xD} : xC eX D yX1_markHalves cX1_markHalves 7 none 3 fX1_markHalves := xmet (own := RX1) xGl_ok xEcX_ok (by decide) rfl rk_0 (by decide +kernel) (List.forall_mem_cons.mpr ⟨foX1_24, List.forall_mem_cons.mpr ⟨foX1_42, List.forall_mem_cons.mpr ⟨foX1_96, fun _ h => absurd h List.not_mem_nil⟩⟩⟩) (List.forall_mem_cons.mpr ⟨xco_N kX11_halvesOf ⟨by decide, by decide⟩ (List.mem_of_getElem? (i := 10) rfl) wiX11_halvesOf xinX11 wcX11_halvesOf (by decide +kernel), List.forall_mem_cons.mpr ⟨xco_N kX11_nextHalf ⟨by decide, by decide⟩ (List.mem_of_getElem? (i := 11) rfl) wiX11_nextHalf xinX11 wcX11_nextHalf (by decide +kernel), List.forall_mem_cons.mpr ⟨xco_V xEcX_ok kX10_goodWays ⟨by decide, by decide⟩ rfl rfl (xt5 (List.mem_of_getElem? (i := 2) rfl) rfl) wiX10_goodWays weX10_goodWays xinX10 wcX10_goodWays (by decide +kernel), List.forall_mem_cons.mpr ⟨xco_V xEcX_ok kX1_isLive ⟨by decide, by decide⟩ rfl rfl (xt5 (List.mem_of_getElem? (i := 19) rfl) rfl) wiX1_isLive weX1_isLive xinX1 wcX1_isLive (by decide +kernel), fun _ h => absurd h List.not_mem_nil⟩⟩⟩⟩)
theorem wcX1_fillMarks : Cond.code yX1_fillMarks cX1_fillMarks 4 none ∈ xTB := (xt5 (List.mem_of_getElem? (i := 13) rfl) rfl)
theorem wiX1_fillMarks : Cond.instanceMethod yX1_fillMarks ∈ xTB := (xt5 (List.mem_of_getElem? (i := 12) rfl) rfl)
theorem weX1_fillMarks : Cond.selects RX1 yX1_fillMarks yX1_fillMarks ∈ xTB := xp2 (q := (yX1_fillMarks, 11)) (List.mem_of_getElem? (i := 11) rfl)
theorem foX1_38 : xfo RX1 (38, 1, 8, 2) := ⟨RX1, TX1, 11, rfl, by decide, Or.inl (xt2 (List.mem_of_getElem? (i := 143) rfl) rfl), rfl, rfl, fun h => absurd rfl h⟩
set_option maxRecDepth 100000 in
theorem kX1_fillMarks {D : xD} : xC eX D yX1_fillMarks cX1_fillMarks 4 none 4 fX1_fillMarks := xmet (own := RX1) xGl_ok xEcX_ok (by decide) rfl rk_0 (by decide +kernel) (List.forall_mem_cons.mpr ⟨foX1_24, List.forall_mem_cons.mpr ⟨foX1_38, List.forall_mem_cons.mpr ⟨foX1_96, fun _ h => absurd h List.not_mem_nil⟩⟩⟩) (List.forall_mem_cons.mpr ⟨xco_V xEcX_ok kX5_whole ⟨by decide, by decide⟩ rfl rfl (xt4 (List.mem_of_getElem? (i := 234) rfl) rfl) wiX5_whole weX5_whole xinX5 wcX5_whole (by decide +kernel), List.forall_mem_cons.mpr ⟨xco_S kJ7_fill_53178 ⟨by decide, by decide⟩ (xt5 (List.mem_of_getElem? (i := 14) rfl) rfl) wiJ7_fill_53178 xinJ7 wcJ7_fill_53178 (by decide +kernel), List.forall_mem_cons.mpr ⟨xco_V xEcX_ok kX1_markHalves ⟨by decide, by decide⟩ rfl rfl (xt5 (List.mem_of_getElem? (i := 15) rfl) rfl) wiX1_markHalves weX1_markHalves xinX1 wcX1_markHalves (by decide +kernel), fun _ h => absurd h List.not_mem_nil⟩⟩⟩)
theorem wcX1_refresh : Cond.code yX1_refresh cX1_refresh 3 none ∈ xTB := (xt4 (List.mem_of_getElem? (i := 233) rfl) rfl)
theorem wiX1_refresh : Cond.instanceMethod yX1_refresh ∈ xTB := (xt4 (List.mem_of_getElem? (i := 231) rfl) rfl)
theorem weX1_refresh : Cond.selects RX1 yX1_refresh yX1_refresh ∈ xTB := (xt4 (List.mem_of_getElem? (i := 232) rfl) rfl)
set_option maxRecDepth 100000 in
theorem kX1_refresh {D : xD} : xC eX D yX1_refresh cX1_refresh 3 none 5 fX1_refresh := xmet (own := RX1) xGl_ok xEcX_ok (by decide) rfl rk_0 (by decide +kernel) (List.forall_mem_cons.mpr ⟨foX1_31, List.forall_mem_cons.mpr ⟨foX1_38, fun _ h => absurd h List.not_mem_nil⟩⟩) (List.forall_mem_cons.mpr ⟨xco_V xEcX_ok kX5_whole ⟨by decide, by decide⟩ rfl rfl (xt4 (List.mem_of_getElem? (i := 234) rfl) rfl) wiX5_whole weX5_whole xinX5 wcX5_whole (by decide +kernel), List.forall_mem_cons.mpr ⟨xco_V xEcX_ok kX1_fillPartings ⟨by decide, by decide⟩ rfl rfl (xt4 (List.mem_of_getElem? (i := 235) rfl) rfl) wiX1_fillPartings weX1_fillPartings xinX1 wcX1_fillPartings (by decide +kernel), List.forall_mem_cons.mpr ⟨xco_V xEcX_ok kX1_fillMarks ⟨by decide, by decide⟩ rfl rfl (xt5 (List.mem_of_getElem? (i := 10) rfl) rfl) wiX1_fillMarks weX1_fillMarks xinX1 wcX1_fillMarks (by decide +kernel), fun _ h => absurd h List.not_mem_nil⟩⟩⟩)
theorem wcX1_inNet : Cond.code yX1_inNet cX1_inNet 2 (some .boolean) ∈ xTB := (xt5 (List.mem_of_getElem? (i := 26) rfl) rfl)
theorem wiX1_inNet : Cond.instanceMethod yX1_inNet ∈ xTB := (xt5 (List.mem_of_getElem? (i := 24) rfl) rfl)
theorem weX1_inNet : Cond.selects RX1 yX1_inNet yX1_inNet ∈ xTB := (xt5 (List.mem_of_getElem? (i := 25) rfl) rfl)
set_option maxRecDepth 100000 in
theorem kX1_inNet {D : xD} : xC eX D yX1_inNet cX1_inNet 2 (some .boolean) 1 fX1_inNet := xmet (own := RX1) xGl_ok xEcX_ok (by decide) rfl rk_2 (by decide +kernel) (List.forall_mem_cons.mpr ⟨foX1_24, fun _ h => absurd h List.not_mem_nil⟩) (fun _ h => absurd h List.not_mem_nil)
theorem wcX1_isNever : Cond.code yX1_isNever cX1_isNever 2 (some .boolean) ∈ xTB := (xt5 (List.mem_of_getElem? (i := 40) rfl) rfl)
theorem wiX1_isNever : Cond.instanceMethod yX1_isNever ∈ xTB := (xt5 (List.mem_of_getElem? (i := 39) rfl) rfl)
theorem weX1_isNever : Cond.selects RX1 yX1_isNever yX1_isNever ∈ xTB := xp2 (q := (yX1_isNever, 11)) (List.mem_of_getElem? (i := 13) rfl)
set_option maxRecDepth 100000 in
theorem kX1_isNever {D : xD} : xC eX D yX1_isNever cX1_isNever 2 (some .boolean) 2 fX1_isNever := xmet (own := RX1) xGl_ok xEcX_ok (by decide) rfl rk_2 (by decide +kernel) (List.forall_mem_cons.mpr ⟨foX1_9, fun _ h => absurd h List.not_mem_nil⟩) (List.forall_mem_cons.mpr ⟨xco_N kX11_isOne ⟨by decide, by decide⟩ (List.mem_of_getElem? (i := 9) rfl) wiX11_isOne xinX11 wcX11_isOne (by decide +kernel), fun _ h => absurd h List.not_mem_nil⟩)
theorem wcX1_howMany : Cond.code yX1_howMany cX1_howMany 5 (some .int) ∈ xTB := (xt5 (List.mem_of_getElem? (i := 35) rfl) rfl)
theorem wiX1_howMany : Cond.instanceMethod yX1_howMany ∈ xTB := (xt5 (List.mem_of_getElem? (i := 33) rfl) rfl)
theorem weX1_howMany : Cond.selects RX1 yX1_howMany yX1_howMany ∈ xTB := (xt5 (List.mem_of_getElem? (i := 34) rfl) rfl)
set_option maxRecDepth 100000 in
theorem kX1_howMany {D : xD} : xC eX D yX1_howMany cX1_howMany 5 (some .int) 3 fX1_howMany := xmet (own := RX1) xGl_ok xEcX_ok (by decide) rfl rk_1 (by decide +kernel) (List.forall_mem_cons.mpr ⟨foX1_38, fun _ h => absurd h List.not_mem_nil⟩) (List.forall_mem_cons.mpr ⟨xco_V xEcX_ok kX5_whole ⟨by decide, by decide⟩ rfl rfl (xt4 (List.mem_of_getElem? (i := 234) rfl) rfl) wiX5_whole weX5_whole xinX5 wcX5_whole (by decide +kernel), List.forall_mem_cons.mpr ⟨xco_V xEcX_ok kX1_isLive ⟨by decide, by decide⟩ rfl rfl (xt5 (List.mem_of_getElem? (i := 19) rfl) rfl) wiX1_isLive weX1_isLive xinX1 wcX1_isLive (by decide +kernel), List.forall_mem_cons.mpr ⟨xco_V xEcX_ok kX1_inNet ⟨by decide, by decide⟩ rfl rfl (xt5 (List.mem_of_getElem? (i := 36) rfl) rfl) wiX1_inNet weX1_inNet xinX1 wcX1_inNet (by decide +kernel), List.forall_mem_cons.mpr ⟨xco_V xEcX_ok kX1_isNever ⟨by decide, by decide⟩ rfl rfl (xt5 (List.mem_of_getElem? (i := 37) rfl) rfl) wiX1_isNever weX1_isNever xinX1 wcX1_isNever (by decide +kernel), fun _ h => absurd h List.not_mem_nil⟩⟩⟩⟩)
theorem wcX1_largestLiveWithout : Cond.code yX1_largestLiveWithout cX1_largestLiveWithout 5 (some .int) ∈ xTB := (xt5 (List.mem_of_getElem? (i := 81) rfl) rfl)
theorem wiX1_largestLiveWithout : Cond.instanceMethod yX1_largestLiveWithout ∈ xTB := (xt5 (List.mem_of_getElem? (i := 79) rfl) rfl)
theorem weX1_largestLiveWithout : Cond.selects RX1 yX1_largestLiveWithout yX1_largestLiveWithout ∈ xTB := (xt5 (List.mem_of_getElem? (i := 80) rfl) rfl)
set_option maxRecDepth 100000 in
theorem kX1_largestLiveWithout {D : xD} : xC eX D yX1_largestLiveWithout cX1_largestLiveWithout 5 (some .int) 2 fX1_largestLiveWithout := xmet (own := RX1) xGl_ok xEcX_ok (by decide) rfl rk_1 (by decide +kernel) (List.forall_mem_cons.mpr ⟨foX1_38, fun _ h => absurd h List.not_mem_nil⟩) (List.forall_mem_cons.mpr ⟨xco_V xEcX_ok kX5_whole ⟨by decide, by decide⟩ rfl rfl (xt4 (List.mem_of_getElem? (i := 234) rfl) rfl) wiX5_whole weX5_whole xinX5 wcX5_whole (by decide +kernel), List.forall_mem_cons.mpr ⟨xco_S kJ6_bitCount_0f7a4 ⟨by decide, by decide⟩ (xt5 (List.mem_of_getElem? (i := 82) rfl) rfl) wiJ6_bitCount_0f7a4 xinJ6 wcJ6_bitCount_0f7a4 (by decide +kernel), List.forall_mem_cons.mpr ⟨xco_V xEcX_ok kX1_isLive ⟨by decide, by decide⟩ rfl rfl (xt5 (List.mem_of_getElem? (i := 19) rfl) rfl) wiX1_isLive weX1_isLive xinX1 wcX1_isLive (by decide +kernel), fun _ h => absurd h List.not_mem_nil⟩⟩⟩)
theorem wcX1_fewestCuts : Cond.code yX1_fewestCuts cX1_fewestCuts 8 (some .long) ∈ xTB := (xt5 (List.mem_of_getElem? (i := 94) rfl) rfl)
theorem wiX1_fewestCuts : Cond.instanceMethod yX1_fewestCuts ∈ xTB := (xt5 (List.mem_of_getElem? (i := 93) rfl) rfl)
theorem weX1_fewestCuts : Cond.selects RX1 yX1_fewestCuts yX1_fewestCuts ∈ xTB := xp3 (q := (yX1_fewestCuts, 11)) (List.mem_of_getElem? (i := 0) rfl)
theorem foX1_27 : xfo RX1 (27, 1, 5, 2) := ⟨RX1, TX1, 11, rfl, by decide, Or.inl (xt2 (List.mem_of_getElem? (i := 140) rfl) rfl), rfl, rfl, fun h => absurd rfl h⟩
set_option maxRecDepth 100000 in
theorem kX1_fewestCuts {D : xD} : xC eX D yX1_fewestCuts cX1_fewestCuts 8 (some .long) 3 fX1_fewestCuts := xmet (own := RX1) xGl_ok xEcX_ok (by decide) rfl rk_3 (by decide +kernel) (List.forall_mem_cons.mpr ⟨foX1_27, List.forall_mem_cons.mpr ⟨foX1_42, fun _ h => absurd h List.not_mem_nil⟩⟩) (List.forall_mem_cons.mpr ⟨xco_N kX11_halvesOf ⟨by decide, by decide⟩ (List.mem_of_getElem? (i := 10) rfl) wiX11_halvesOf xinX11 wcX11_halvesOf (by decide +kernel), List.forall_mem_cons.mpr ⟨xco_N kX11_nextHalf ⟨by decide, by decide⟩ (List.mem_of_getElem? (i := 11) rfl) wiX11_nextHalf xinX11 wcX11_nextHalf (by decide +kernel), List.forall_mem_cons.mpr ⟨xco_V xEcX_ok kX10_goodWays ⟨by decide, by decide⟩ rfl rfl (xt5 (List.mem_of_getElem? (i := 2) rfl) rfl) wiX10_goodWays weX10_goodWays xinX10 wcX10_goodWays (by decide +kernel), fun _ h => absurd h List.not_mem_nil⟩⟩⟩)
theorem wcX1_cutsDownTo : Cond.code yX1_cutsDownTo cX1_cutsDownTo 3 (some .int) ∈ xTB := (xt5 (List.mem_of_getElem? (i := 90) rfl) rfl)
theorem wiX1_cutsDownTo : Cond.instanceMethod yX1_cutsDownTo ∈ xTB := (xt5 (List.mem_of_getElem? (i := 88) rfl) rfl)
theorem weX1_cutsDownTo : Cond.selects RX1 yX1_cutsDownTo yX1_cutsDownTo ∈ xTB := (xt5 (List.mem_of_getElem? (i := 89) rfl) rfl)
set_option maxRecDepth 100000 in
theorem kX1_cutsDownTo {D : xD} : xC eX D yX1_cutsDownTo cX1_cutsDownTo 3 (some .int) 4 fX1_cutsDownTo := xmet (own := RX1) xGl_ok xEcX_ok (by decide) rfl rk_1 (by decide +kernel) (List.forall_mem_cons.mpr ⟨foX1_27, List.forall_mem_cons.mpr ⟨foX1_38, fun _ h => absurd h List.not_mem_nil⟩⟩) (List.forall_mem_cons.mpr ⟨xco_V xEcX_ok kX5_whole ⟨by decide, by decide⟩ rfl rfl (xt4 (List.mem_of_getElem? (i := 234) rfl) rfl) wiX5_whole weX5_whole xinX5 wcX5_whole (by decide +kernel), List.forall_mem_cons.mpr ⟨xco_N kX11_isOne ⟨by decide, by decide⟩ (List.mem_of_getElem? (i := 9) rfl) wiX11_isOne xinX11 wcX11_isOne (by decide +kernel), List.forall_mem_cons.mpr ⟨xco_V xEcX_ok kX1_fewestCuts ⟨by decide, by decide⟩ rfl rfl (xt5 (List.mem_of_getElem? (i := 91) rfl) rfl) wiX1_fewestCuts weX1_fewestCuts xinX1 wcX1_fewestCuts (by decide +kernel), fun _ h => absurd h List.not_mem_nil⟩⟩⟩)
theorem wcX11_within : Cond.code yX11_within cX11_within 2 (some .boolean) ∈ xTB := (xt4 (List.mem_of_getElem? (i := 91) rfl) rfl)
theorem wiX11_within : Cond.static yX11_within ∈ xTB := (xt4 (List.mem_of_getElem? (i := 90) rfl) rfl)
set_option maxRecDepth 100000 in
theorem kX11_within {D : xD} : xC eX D yX11_within cX11_within 2 (some .boolean) 1 fX11_within := xmet (own := RX11) xGl_ok xEcX_ok (by decide) rfl rk_2 (by decide +kernel) (fun _ h => absurd h List.not_mem_nil) (fun _ h => absurd h List.not_mem_nil)
theorem wcX1_sumOfLonely : Cond.code yX1_sumOfLonely cX1_sumOfLonely 7 (some .long) ∈ xTB := (xt6 (List.mem_of_getElem? (i := 12) rfl) rfl)
theorem wiX1_sumOfLonely : Cond.instanceMethod yX1_sumOfLonely ∈ xTB := (xt6 (List.mem_of_getElem? (i := 11) rfl) rfl)
theorem weX1_sumOfLonely : Cond.selects RX1 yX1_sumOfLonely yX1_sumOfLonely ∈ xTB := xp3 (q := (yX1_sumOfLonely, 11)) (List.mem_of_getElem? (i := 9) rfl)
theorem foX1_133 : xfo RX1 (133, 5, 0, 0) := ⟨RX5, TX5, 10, rfl, by decide, Or.inl (xt1 (List.mem_of_getElem? (i := 95) rfl) rfl), rfl, rfl, fun h => rfl⟩
set_option maxRecDepth 100000 in
theorem kX1_sumOfLonely {D : xD} : xC eX D yX1_sumOfLonely cX1_sumOfLonely 7 (some .long) 3 fX1_sumOfLonely := xmet (own := RX1) xGl_ok xEcX_ok (by decide) rfl rk_3 (by decide +kernel) (List.forall_mem_cons.mpr ⟨foX1_27, List.forall_mem_cons.mpr ⟨foX1_38, List.forall_mem_cons.mpr ⟨foX1_42, List.forall_mem_cons.mpr ⟨foX1_133, fun _ h => absurd h List.not_mem_nil⟩⟩⟩⟩) (List.forall_mem_cons.mpr ⟨xco_N kX11_isOne ⟨by decide, by decide⟩ (List.mem_of_getElem? (i := 9) rfl) wiX11_isOne xinX11 wcX11_isOne (by decide +kernel), List.forall_mem_cons.mpr ⟨xco_V xEcX_ok kX10_goodWays ⟨by decide, by decide⟩ rfl rfl (xt5 (List.mem_of_getElem? (i := 2) rfl) rfl) wiX10_goodWays weX10_goodWays xinX10 wcX10_goodWays (by decide +kernel), fun _ h => absurd h List.not_mem_nil⟩⟩)
theorem wcX1_lonelyOrders : Cond.code yX1_lonelyOrders cX1_lonelyOrders 3 (some .long) ∈ xTB := (xt6 (List.mem_of_getElem? (i := 7) rfl) rfl)
theorem wiX1_lonelyOrders : Cond.instanceMethod yX1_lonelyOrders ∈ xTB := (xt6 (List.mem_of_getElem? (i := 5) rfl) rfl)
theorem weX1_lonelyOrders : Cond.selects RX1 yX1_lonelyOrders yX1_lonelyOrders ∈ xTB := (xt6 (List.mem_of_getElem? (i := 6) rfl) rfl)
set_option maxRecDepth 100000 in
theorem kX1_lonelyOrders {D : xD} : xC eX D yX1_lonelyOrders cX1_lonelyOrders 3 (some .long) 4 fX1_lonelyOrders := xmet (own := RX1) xGl_ok xEcX_ok (by decide) rfl rk_3 (by decide +kernel) (List.forall_mem_cons.mpr ⟨foX1_27, fun _ h => absurd h List.not_mem_nil⟩) (List.forall_mem_cons.mpr ⟨xco_N kX11_within ⟨by decide, by decide⟩ (List.mem_of_getElem? (i := 8) rfl) wiX11_within xinX11 wcX11_within (by decide +kernel), List.forall_mem_cons.mpr ⟨xco_N kX11_isOne ⟨by decide, by decide⟩ (List.mem_of_getElem? (i := 9) rfl) wiX11_isOne xinX11 wcX11_isOne (by decide +kernel), List.forall_mem_cons.mpr ⟨xco_V xEcX_ok kX1_sumOfLonely ⟨by decide, by decide⟩ rfl rfl (xt6 (List.mem_of_getElem? (i := 9) rfl) rfl) wiX1_sumOfLonely weX1_sumOfLonely xinX1 wcX1_sumOfLonely (by decide +kernel), fun _ h => absurd h List.not_mem_nil⟩⟩⟩)
theorem wcX1_mayBeQuicker : Cond.code yX1_mayBeQuicker cX1_mayBeQuicker 6 (some .boolean) ∈ xTB := (xt6 (List.mem_of_getElem? (i := 148) rfl) rfl)
theorem wiX1_mayBeQuicker : Cond.instanceMethod yX1_mayBeQuicker ∈ xTB := (xt6 (List.mem_of_getElem? (i := 147) rfl) rfl)
theorem weX1_mayBeQuicker : Cond.selects RX1 yX1_mayBeQuicker yX1_mayBeQuicker ∈ xTB := xp4 (q := (yX1_mayBeQuicker, 11)) (List.mem_of_getElem? (i := 1) rfl)
theorem foX1_18 : xfo RX1 (18, 1, 2, 2) := ⟨RX1, TX1, 11, rfl, by decide, Or.inl (xt2 (List.mem_of_getElem? (i := 135) rfl) rfl), rfl, rfl, fun h => absurd rfl h⟩
theorem foX1_21 : xfo RX1 (21, 1, 3, 2) := ⟨RX1, TX1, 11, rfl, by decide, Or.inl (xt2 (List.mem_of_getElem? (i := 137) rfl) rfl), rfl, rfl, fun h => absurd rfl h⟩
set_option maxRecDepth 100000 in
theorem kX1_mayBeQuicker {D : xD} : xC eX D yX1_mayBeQuicker cX1_mayBeQuicker 6 (some .boolean) 1 fX1_mayBeQuicker := xmet (own := RX1) xGl_ok xEcX_ok (by decide) rfl rk_2 (by decide +kernel) (List.forall_mem_cons.mpr ⟨foX1_18, List.forall_mem_cons.mpr ⟨foX1_21, fun _ h => absurd h List.not_mem_nil⟩⟩) (List.forall_mem_cons.mpr ⟨xco_max (by decide) (xt5 (List.mem_of_getElem? (i := 7) rfl) rfl), fun _ h => absurd h List.not_mem_nil⟩)
theorem wcX7_load : Cond.code yX7_load cX7_load 3 none ∈ xTB := (xt5 (List.mem_of_getElem? (i := 108) rfl) rfl)
theorem wiX7_load : Cond.instanceMethod yX7_load ∈ xTB := (xt5 (List.mem_of_getElem? (i := 106) rfl) rfl)
theorem weX7_load : Cond.selects RX7 yX7_load yX7_load ∈ xTB := (xt5 (List.mem_of_getElem? (i := 107) rfl) rfl)
theorem foX7_14 : xfo RX7 (14, 7, 1, 2) := ⟨RX7, TX7, 12, rfl, by decide, Or.inl (xt2 (List.mem_of_getElem? (i := 89) rfl) rfl), rfl, rfl, fun h => absurd rfl h⟩
theorem foX7_18 : xfo RX7 (18, 7, 2, 2) := ⟨RX7, TX7, 12, rfl, by decide, Or.inl (xt2 (List.mem_of_getElem? (i := 90) rfl) rfl), rfl, rfl, fun h => absurd rfl h⟩
theorem foX7_50 : xfo RX7 (50, 7, 0, 2) := ⟨RX7, TX7, 12, rfl, by decide, Or.inl (xt2 (List.mem_of_getElem? (i := 88) rfl) rfl), rfl, rfl, fun h => absurd rfl h⟩
set_option maxRecDepth 100000 in
theorem kX7_load {D : xD} : xC eX D yX7_load cX7_load 3 none 3 fX7_load := xmet (own := RX7) xGl_ok xEcX_ok (by decide) rfl rk_0 (by decide +kernel) (List.forall_mem_cons.mpr ⟨foX7_14, List.forall_mem_cons.mpr ⟨foX7_18, List.forall_mem_cons.mpr ⟨foX7_50, fun _ h => absurd h List.not_mem_nil⟩⟩⟩) (List.forall_mem_cons.mpr ⟨xco_V xEcX_ok kX5_collect ⟨by decide, by decide⟩ rfl rfl (xt5 (List.mem_of_getElem? (i := 109) rfl) rfl) wiX5_collect weX5_collect xinX5 wcX5_collect (by decide +kernel), fun _ h => absurd h List.not_mem_nil⟩)
theorem wcX11_axisOf : Cond.code yX11_axisOf cX11_axisOf 1 (some .int) ∈ xTB := (xt3 (List.mem_of_getElem? (i := 196) rfl) rfl)
theorem wiX11_axisOf : Cond.static yX11_axisOf ∈ xTB := (xt3 (List.mem_of_getElem? (i := 195) rfl) rfl)
set_option maxRecDepth 100000 in
theorem kX11_axisOf {D : xD} : xC eX D yX11_axisOf cX11_axisOf 1 (some .int) 1 fX11_axisOf := xmet (own := RX11) xGl_ok xEcX_ok (by decide) rfl rk_1 (by decide +kernel) (fun _ h => absurd h List.not_mem_nil) (fun _ h => absurd h List.not_mem_nil)
theorem wcX7_spanOf : Cond.code yX7_spanOf cX7_spanOf 1 (some .int) ∈ xTB := (xt6 (List.mem_of_getElem? (i := 131) rfl) rfl)
theorem wiX7_spanOf : Cond.static yX7_spanOf ∈ xTB := (xt6 (List.mem_of_getElem? (i := 130) rfl) rfl)
set_option maxRecDepth 100000 in
theorem kX7_spanOf {D : xD} : xC eX D yX7_spanOf cX7_spanOf 1 (some .int) 2 fX7_spanOf := xmet (own := RX7) xGl_ok xEcX_ok (by decide) rfl rk_1 (by decide +kernel) (fun _ h => absurd h List.not_mem_nil) (List.forall_mem_cons.mpr ⟨xco_S kX6_highest ⟨by decide, by decide⟩ (xt6 (List.mem_of_getElem? (i := 116) rfl) rfl) wiX6_highest xinX6 wcX6_highest (by decide +kernel), List.forall_mem_cons.mpr ⟨xco_S kX6_lowest ⟨by decide, by decide⟩ (xt6 (List.mem_of_getElem? (i := 115) rfl) rfl) wiX6_lowest xinX6 wcX6_lowest (by decide +kernel), fun _ h => absurd h List.not_mem_nil⟩⟩)
theorem wcX11_signOf : Cond.code yX11_signOf cX11_signOf 1 (some .int) ∈ xTB := (xt3 (List.mem_of_getElem? (i := 199) rfl) rfl)
theorem wiX11_signOf : Cond.static yX11_signOf ∈ xTB := (xt3 (List.mem_of_getElem? (i := 198) rfl) rfl)
set_option maxRecDepth 100000 in
theorem kX11_signOf {D : xD} : xC eX D yX11_signOf cX11_signOf 1 (some .int) 1 fX11_signOf := xmet (own := RX11) xGl_ok xEcX_ok (by decide) rfl rk_1 (by decide +kernel) (fun _ h => absurd h List.not_mem_nil) (fun _ h => absurd h List.not_mem_nil)
theorem wcX7_cellsTillOut : Cond.code yX7_cellsTillOut cX7_cellsTillOut 6 (some .int) ∈ xTB := (xt6 (List.mem_of_getElem? (i := 128) rfl) rfl)
theorem wiX7_cellsTillOut : Cond.instanceMethod yX7_cellsTillOut ∈ xTB := (xt6 (List.mem_of_getElem? (i := 126) rfl) rfl)
theorem weX7_cellsTillOut : Cond.selects RX7 yX7_cellsTillOut yX7_cellsTillOut ∈ xTB := (xt6 (List.mem_of_getElem? (i := 127) rfl) rfl)
theorem foX7_21 : xfo RX7 (21, 7, 3, 2) := ⟨RX7, TX7, 12, rfl, by decide, Or.inl (xt2 (List.mem_of_getElem? (i := 91) rfl) rfl), rfl, rfl, fun h => absurd rfl h⟩
set_option maxRecDepth 100000 in
theorem kX7_cellsTillOut {D : xD} : xC eX D yX7_cellsTillOut cX7_cellsTillOut 6 (some .int) 3 fX7_cellsTillOut := xmet (own := RX7) xGl_ok xEcX_ok (by decide) rfl rk_1 (by decide +kernel) (List.forall_mem_cons.mpr ⟨foX7_14, List.forall_mem_cons.mpr ⟨foX7_18, List.forall_mem_cons.mpr ⟨foX7_21, fun _ h => absurd h List.not_mem_nil⟩⟩⟩) (List.forall_mem_cons.mpr ⟨xco_N kX11_axisOf ⟨by decide, by decide⟩ (List.mem_of_getElem? (i := 25) rfl) wiX11_axisOf xinX11 wcX11_axisOf (by decide +kernel), List.forall_mem_cons.mpr ⟨xco_V xEcX_ok kX6_copy ⟨by decide, by decide⟩ rfl rfl (xt6 (List.mem_of_getElem? (i := 86) rfl) rfl) wiX6_copy weX6_copy xinX6 wcX6_copy (by decide +kernel), List.forall_mem_cons.mpr ⟨xco_V xEcX_ok kX6_shadow ⟨by decide, by decide⟩ rfl rfl (xt6 (List.mem_of_getElem? (i := 114) rfl) rfl) wiX6_shadow weX6_shadow xinX6 wcX6_shadow (by decide +kernel), List.forall_mem_cons.mpr ⟨xco_S kX7_spanOf ⟨by decide, by decide⟩ (xt6 (List.mem_of_getElem? (i := 129) rfl) rfl) wiX7_spanOf xinX7 wcX7_spanOf (by decide +kernel), List.forall_mem_cons.mpr ⟨xco_V xEcX_ok kX6_keep ⟨by decide, by decide⟩ rfl rfl (xt6 (List.mem_of_getElem? (i := 132) rfl) rfl) wiX6_keep weX6_keep xinX6 wcX6_keep (by decide +kernel), List.forall_mem_cons.mpr ⟨xco_N kX11_signOf ⟨by decide, by decide⟩ (List.mem_of_getElem? (i := 24) rfl) wiX11_signOf xinX11 wcX11_signOf (by decide +kernel), fun _ h => absurd h List.not_mem_nil⟩⟩⟩⟩⟩⟩)
theorem wcX1_lesser : Cond.code yX1_lesser cX1_lesser 2 (some .int) ∈ xTB := (xt6 (List.mem_of_getElem? (i := 157) rfl) rfl)
theorem wiX1_lesser : Cond.static yX1_lesser ∈ xTB := (xt6 (List.mem_of_getElem? (i := 156) rfl) rfl)
set_option maxRecDepth 100000 in
theorem kX1_lesser {D : xD} : xC eX D yX1_lesser cX1_lesser 2 (some .int) 1 fX1_lesser := xmet (own := RX1) xGl_ok xEcX_ok (by decide) rfl rk_1 (by decide +kernel) (fun _ h => absurd h List.not_mem_nil) (List.forall_mem_cons.mpr ⟨xco_min (by decide) (xt6 (List.mem_of_getElem? (i := 158) rfl) rfl), fun _ h => absurd h List.not_mem_nil⟩)
theorem wcX1_quickest : Cond.code yX1_quickest cX1_quickest 6 (some .int) ∈ xTB := (xt6 (List.mem_of_getElem? (i := 152) rfl) rfl)
theorem wiX1_quickest : Cond.instanceMethod yX1_quickest ∈ xTB := (xt6 (List.mem_of_getElem? (i := 151) rfl) rfl)
theorem weX1_quickest : Cond.selects RX1 yX1_quickest yX1_quickest ∈ xTB := xp4 (q := (yX1_quickest, 11)) (List.mem_of_getElem? (i := 2) rfl)
theorem foX1_46 : xfo RX1 (46, 1, 10, 2) := ⟨RX1, TX1, 11, rfl, by decide, Or.inl (xt2 (List.mem_of_getElem? (i := 145) rfl) rfl), rfl, rfl, fun h => absurd rfl h⟩
set_option maxRecDepth 100000 in
theorem kX1_quickest {D : xD} : xC eX D yX1_quickest cX1_quickest 6 (some .int) 4 fX1_quickest := xmet (own := RX1) xGl_ok xEcX_ok (by decide) rfl rk_1 (by decide +kernel) (List.forall_mem_cons.mpr ⟨foX1_46, fun _ h => absurd h List.not_mem_nil⟩) (List.forall_mem_cons.mpr ⟨xco_V xEcX_ok kX7_load ⟨by decide, by decide⟩ rfl rfl (xt6 (List.mem_of_getElem? (i := 153) rfl) rfl) wiX7_load weX7_load xinX7 wcX7_load (by decide +kernel), List.forall_mem_cons.mpr ⟨xco_V xEcX_ok kX7_cellsTillOut ⟨by decide, by decide⟩ rfl rfl (xt6 (List.mem_of_getElem? (i := 154) rfl) rfl) wiX7_cellsTillOut weX7_cellsTillOut xinX7 wcX7_cellsTillOut (by decide +kernel), List.forall_mem_cons.mpr ⟨xco_S kX1_lesser ⟨by decide, by decide⟩ (xt6 (List.mem_of_getElem? (i := 155) rfl) rfl) wiX1_lesser xinX1 wcX1_lesser (by decide +kernel), fun _ h => absurd h List.not_mem_nil⟩⟩⟩)
theorem wcX1_fillTimes : Cond.code yX1_fillTimes cX1_fillTimes 7 none ∈ xTB := (xt6 (List.mem_of_getElem? (i := 144) rfl) rfl)
theorem wiX1_fillTimes : Cond.instanceMethod yX1_fillTimes ∈ xTB := (xt6 (List.mem_of_getElem? (i := 143) rfl) rfl)
theorem weX1_fillTimes : Cond.selects RX1 yX1_fillTimes yX1_fillTimes ∈ xTB := xp4 (q := (yX1_fillTimes, 11)) (List.mem_of_getElem? (i := 0) rfl)
set_option maxRecDepth 100000 in
theorem kX1_fillTimes {D : xD} : xC eX D yX1_fillTimes cX1_fillTimes 7 none 5 fX1_fillTimes := xmet (own := RX1) xGl_ok xEcX_ok (by decide) rfl rk_0 (by decide +kernel) (List.forall_mem_cons.mpr ⟨foX1_18, List.forall_mem_cons.mpr ⟨foX1_21, List.forall_mem_cons.mpr ⟨foX1_42, fun _ h => absurd h List.not_mem_nil⟩⟩⟩) (List.forall_mem_cons.mpr ⟨xco_N kX11_halvesOf ⟨by decide, by decide⟩ (List.mem_of_getElem? (i := 10) rfl) wiX11_halvesOf xinX11 wcX11_halvesOf (by decide +kernel), List.forall_mem_cons.mpr ⟨xco_N kX11_nextHalf ⟨by decide, by decide⟩ (List.mem_of_getElem? (i := 11) rfl) wiX11_nextHalf xinX11 wcX11_nextHalf (by decide +kernel), List.forall_mem_cons.mpr ⟨xco_V xEcX_ok kX1_mayBeQuicker ⟨by decide, by decide⟩ rfl rfl (xt6 (List.mem_of_getElem? (i := 145) rfl) rfl) wiX1_mayBeQuicker weX1_mayBeQuicker xinX1 wcX1_mayBeQuicker (by decide +kernel), List.forall_mem_cons.mpr ⟨xco_V xEcX_ok kX10_goodWays ⟨by decide, by decide⟩ rfl rfl (xt5 (List.mem_of_getElem? (i := 2) rfl) rfl) wiX10_goodWays weX10_goodWays xinX10 wcX10_goodWays (by decide +kernel), List.forall_mem_cons.mpr ⟨xco_V xEcX_ok kX1_quickest ⟨by decide, by decide⟩ rfl rfl (xt6 (List.mem_of_getElem? (i := 149) rfl) rfl) wiX1_quickest weX1_quickest xinX1 wcX1_quickest (by decide +kernel), List.forall_mem_cons.mpr ⟨xco_S kX1_lesser ⟨by decide, by decide⟩ (xt6 (List.mem_of_getElem? (i := 155) rfl) rfl) wiX1_lesser xinX1 wcX1_lesser (by decide +kernel), List.forall_mem_cons.mpr ⟨xco_max (by decide) (xt5 (List.mem_of_getElem? (i := 7) rfl) rfl), fun _ h => absurd h List.not_mem_nil⟩⟩⟩⟩⟩⟩⟩)
theorem wcX1_freshTimes : Cond.code yX1_freshTimes cX1_freshTimes 2 none ∈ xTB := (xt6 (List.mem_of_getElem? (i := 140) rfl) rfl)
theorem wiX1_freshTimes : Cond.instanceMethod yX1_freshTimes ∈ xTB := (xt6 (List.mem_of_getElem? (i := 138) rfl) rfl)
theorem weX1_freshTimes : Cond.selects RX1 yX1_freshTimes yX1_freshTimes ∈ xTB := (xt6 (List.mem_of_getElem? (i := 139) rfl) rfl)
set_option maxRecDepth 100000 in
theorem kX1_freshTimes {D : xD} : xC eX D yX1_freshTimes cX1_freshTimes 2 none 6 fX1_freshTimes := xmet (own := RX1) xGl_ok xEcX_ok (by decide) rfl rk_0 (by decide +kernel) (List.forall_mem_cons.mpr ⟨foX1_18, List.forall_mem_cons.mpr ⟨foX1_21, List.forall_mem_cons.mpr ⟨foX1_35, List.forall_mem_cons.mpr ⟨foX1_38, fun _ h => absurd h List.not_mem_nil⟩⟩⟩⟩) (List.forall_mem_cons.mpr ⟨xco_V xEcX_ok kX5_whole ⟨by decide, by decide⟩ rfl rfl (xt4 (List.mem_of_getElem? (i := 234) rfl) rfl) wiX5_whole weX5_whole xinX5 wcX5_whole (by decide +kernel), List.forall_mem_cons.mpr ⟨xco_N kX11_isOne ⟨by decide, by decide⟩ (List.mem_of_getElem? (i := 9) rfl) wiX11_isOne xinX11 wcX11_isOne (by decide +kernel), List.forall_mem_cons.mpr ⟨xco_V xEcX_ok kX1_fillTimes ⟨by decide, by decide⟩ rfl rfl (xt6 (List.mem_of_getElem? (i := 141) rfl) rfl) wiX1_fillTimes weX1_fillTimes xinX1 wcX1_fillTimes (by decide +kernel), fun _ h => absurd h List.not_mem_nil⟩⟩⟩)
theorem wcX2_holdsAllOrNone : Cond.code yX2_holdsAllOrNone cX2_holdsAllOrNone 2 (some .boolean) ∈ xTB := (xt4 (List.mem_of_getElem? (i := 215) rfl) rfl)
theorem wiX2_holdsAllOrNone : Cond.static yX2_holdsAllOrNone ∈ xTB := (xt4 (List.mem_of_getElem? (i := 214) rfl) rfl)
set_option maxRecDepth 100000 in
theorem kX2_holdsAllOrNone {D : xD} : xC eX D yX2_holdsAllOrNone cX2_holdsAllOrNone 2 (some .boolean) 1 fX2_holdsAllOrNone := xmet (own := RX2) xGl_ok xEcX_ok (by decide) rfl rk_2 (by decide +kernel) (fun _ h => absurd h List.not_mem_nil) (fun _ h => absurd h List.not_mem_nil)
theorem wcX2_tryCut : Cond.code yX2_tryCut cX2_tryCut 7 none ∈ xTB := (xt4 (List.mem_of_getElem? (i := 229) rfl) rfl)
theorem wiX2_tryCut : Cond.instanceMethod yX2_tryCut ∈ xTB := (xt4 (List.mem_of_getElem? (i := 228) rfl) rfl)
theorem weX2_tryCut : Cond.selects RX2 yX2_tryCut yX2_tryCut ∈ xTB := xp2 (q := (yX2_tryCut, 9)) (List.mem_of_getElem? (i := 8) rfl)
theorem foX2_15 : xfo RX2 (15, 2, 1, 2) := ⟨RX2, TX2, 9, rfl, by decide, Or.inl (xt2 (List.mem_of_getElem? (i := 49) rfl) rfl), rfl, rfl, fun h => absurd rfl h⟩
theorem foX2_19 : xfo RX2 (19, 2, 2, 2) := ⟨RX2, TX2, 9, rfl, by decide, Or.inl (xt2 (List.mem_of_getElem? (i := 51) rfl) rfl), rfl, rfl, fun h => absurd rfl h⟩
theorem foX2_22 : xfo RX2 (22, 2, 3, 2) := ⟨RX2, TX2, 9, rfl, by decide, Or.inl (xt2 (List.mem_of_getElem? (i := 53) rfl) rfl), rfl, rfl, fun h => absurd rfl h⟩
theorem foX2_36 : xfo RX2 (36, 2, 7, 2) := ⟨RX2, TX2, 9, rfl, by decide, Or.inl (xt2 (List.mem_of_getElem? (i := 59) rfl) rfl), rfl, rfl, fun h => absurd rfl h⟩
theorem foX2_40 : xfo RX2 (40, 2, 8, 2) := ⟨RX2, TX2, 9, rfl, by decide, Or.inl (xt2 (List.mem_of_getElem? (i := 60) rfl) rfl), rfl, rfl, fun h => absurd rfl h⟩
theorem foX2_78 : xfo RX2 (78, 0, 5, 2) := ⟨RX0, TX0, 7, rfl, by decide, Or.inl (xt2 (List.mem_of_getElem? (i := 22) rfl) rfl), rfl, rfl, fun h => absurd rfl h⟩
set_option maxRecDepth 100000 in
theorem kX2_tryCut {D : xD} : xC eX D yX2_tryCut cX2_tryCut 7 none 1 fX2_tryCut := xmet (own := RX2) xGl_ok xEcX_ok (by decide) rfl rk_0 (by decide +kernel) (List.forall_mem_cons.mpr ⟨foX2_15, List.forall_mem_cons.mpr ⟨foX2_19, List.forall_mem_cons.mpr ⟨foX2_22, List.forall_mem_cons.mpr ⟨foX2_36, List.forall_mem_cons.mpr ⟨foX2_40, List.forall_mem_cons.mpr ⟨foX2_78, fun _ h => absurd h List.not_mem_nil⟩⟩⟩⟩⟩⟩) (fun _ h => absurd h List.not_mem_nil)
theorem wcX2_fillHeap : Cond.code yX2_fillHeap cX2_fillHeap 9 none ∈ xTB := (xt4 (List.mem_of_getElem? (i := 219) rfl) rfl)
theorem wiX2_fillHeap : Cond.instanceMethod yX2_fillHeap ∈ xTB := (xt4 (List.mem_of_getElem? (i := 218) rfl) rfl)
theorem weX2_fillHeap : Cond.selects RX2 yX2_fillHeap yX2_fillHeap ∈ xTB := xp2 (q := (yX2_fillHeap, 9)) (List.mem_of_getElem? (i := 7) rfl)
theorem foX2_9 : xfo RX2 (9, 2, 0, 2) := ⟨RX2, TX2, 9, rfl, by decide, Or.inl (xt2 (List.mem_of_getElem? (i := 46) rfl) rfl), rfl, rfl, fun h => absurd rfl h⟩
set_option maxRecDepth 100000 in
theorem kX2_fillHeap {D : xD} : xC eX D yX2_fillHeap cX2_fillHeap 9 none 3 fX2_fillHeap := xmet (own := RX2) xGl_ok xEcX_ok (by decide) rfl rk_0 (by decide +kernel) (List.forall_mem_cons.mpr ⟨foX2_9, fun _ h => absurd h List.not_mem_nil⟩) (List.forall_mem_cons.mpr ⟨xco_N kX11_halvesOf ⟨by decide, by decide⟩ (List.mem_of_getElem? (i := 13) rfl) wiX11_halvesOf xinX11 wcX11_halvesOf (by decide +kernel), List.forall_mem_cons.mpr ⟨xco_N kX11_nextHalf ⟨by decide, by decide⟩ (List.mem_of_getElem? (i := 14) rfl) wiX11_nextHalf xinX11 wcX11_nextHalf (by decide +kernel), List.forall_mem_cons.mpr ⟨xco_S kX2_holdsAllOrNone ⟨by decide, by decide⟩ (xt4 (List.mem_of_getElem? (i := 213) rfl) rfl) wiX2_holdsAllOrNone xinX2 wcX2_holdsAllOrNone (by decide +kernel), List.forall_mem_cons.mpr ⟨xco_V xEcX_ok kX10_goodWays ⟨by decide, by decide⟩ rfl rfl (xt4 (List.mem_of_getElem? (i := 222) rfl) rfl) wiX10_goodWays weX10_goodWays xinX10 wcX10_goodWays (by decide +kernel), List.forall_mem_cons.mpr ⟨xco_V xEcX_ok kX2_tryCut ⟨by decide, by decide⟩ rfl rfl (xt4 (List.mem_of_getElem? (i := 226) rfl) rfl) wiX2_tryCut weX2_tryCut xinX2 wcX2_tryCut (by decide +kernel), fun _ h => absurd h List.not_mem_nil⟩⟩⟩⟩⟩)
