/-! The constructors, as functions and as contracts -/
theorem yarr : ∀ ty, yty ty ≤ 4 → Cond.arrayClass (newarray.typeOf ty) ∈ xTB := by
  intro ty h
  cases ty with
  | boolean => exact xt7 (List.mem_of_getElem? (i := 175) rfl) rfl
  | byte => exact xt1 (List.mem_of_getElem? (i := 69) rfl) rfl
  | int => exact xt1 (List.mem_of_getElem? (i := 86) rfl) rfl
  | long => exact xt1 (List.mem_of_getElem? (i := 87) rfl) rfl
  | _ => exact absurd h (by decide)
theorem yoi : Cond.instanceMethod objectInit ∈ xTB ∧ Cond.code objectInit ⟨#[0xb1]⟩ 1 none ∈ xTB := ⟨(xt1 (List.mem_of_getElem? (i := 28) rfl) rfl), (xt1 (List.mem_of_getElem? (i := 29) rfl) rfl)⟩
theorem yoX6_11 : yfo RX6 (11, 6, 0, 2) := ⟨RX6, TX6, 1, rfl, by decide, (xt1 (List.mem_of_getElem? (i := 82) rfl) rfl), rfl, rfl, rfl⟩
def tX6_init : xT := [(0, none, [(0, .aload_n 0, .inl 0), (1, .invokespecial 5, .inl 0), (4, .aload_n 0, .inl 0), (5, .bipush 8, .inr (.inl 8)), (7, .newarray .long, .inl 0), (9, .putfield 11, .inl 0), (12, .return_, .inl 0)])]
def uX6_init : yF := yfn [(11, 6, 0, 2)] [] [] 5 tX6_init 9 1 1 8
theorem wcX6_init : Cond.code yX6_init cX6_init 1 none ∈ xTB := (xt1 (List.mem_of_getElem? (i := 80) rfl) rfl)
theorem wiX6_init : Cond.instanceMethod yX6_init ∈ xTB := (xt1 (List.mem_of_getElem? (i := 79) rfl) rfl)
set_option maxRecDepth 100000 in
theorem vX6_init {D : xD} : yC D yX6_init cX6_init 1 1 1 8 uX6_init := ymet (own := RX6) ycg_ok xcg_ok (by decide) rfl rfl (by decide +kernel) (List.forall_mem_cons.mpr ⟨yoX6_11, fun _ h => absurd h List.not_mem_nil⟩) (fun _ h => absurd h List.not_mem_nil) (fun _ h => absurd h List.not_mem_nil) ⟨(xt1 (List.mem_of_getElem? (i := 81) rfl) rfl), yoi.1, yoi.2⟩ yarr (by decide)
theorem yoX8_9 : yfo RX8 (9, 8, 0, 2) := ⟨RX8, TX8, 8, rfl, by decide, (xt1 (List.mem_of_getElem? (i := 36) rfl) rfl), rfl, rfl, rfl⟩
theorem yoX8_15 : yfo RX8 (15, 8, 1, 0) := ⟨RX8, TX8, 8, rfl, by decide, (xt1 (List.mem_of_getElem? (i := 37) rfl) rfl), rfl, rfl, rfl⟩
theorem yoX8_19 : yfo RX8 (19, 8, 2, 0) := ⟨RX8, TX8, 8, rfl, by decide, (xt1 (List.mem_of_getElem? (i := 39) rfl) rfl), rfl, rfl, rfl⟩
theorem yoX8_22 : yfo RX8 (22, 8, 3, 0) := ⟨RX8, TX8, 8, rfl, by decide, (xt1 (List.mem_of_getElem? (i := 41) rfl) rfl), rfl, rfl, rfl⟩
theorem yoX8_25 : yfo RX8 (25, 8, 4, 0) := ⟨RX8, TX8, 8, rfl, by decide, (xt1 (List.mem_of_getElem? (i := 43) rfl) rfl), rfl, rfl, rfl⟩
theorem yoX8_28 : yfo RX8 (28, 8, 5, 0) := ⟨RX8, TX8, 8, rfl, by decide, (xt1 (List.mem_of_getElem? (i := 46) rfl) rfl), rfl, rfl, rfl⟩
theorem yoX8_31 : yfo RX8 (31, 8, 6, 0) := ⟨RX8, TX8, 8, rfl, by decide, (xt1 (List.mem_of_getElem? (i := 48) rfl) rfl), rfl, rfl, rfl⟩
theorem yoX8_34 : yfo RX8 (34, 8, 7, 0) := ⟨RX8, TX8, 8, rfl, by decide, (xt1 (List.mem_of_getElem? (i := 51) rfl) rfl), rfl, rfl, rfl⟩
def tX8_init : xT := [(0, none, [(0, .aload_n 0, .inl 0), (1, .invokespecial 3, .inl 0), (4, .aload_n 0, .inl 0), (5, .sipush 800, .inr (.inl 800)), (8, .newarray .byte, .inl 0), (10, .putfield 9, .inl 0), (13, .aload_n 0, .inl 0), (14, .iconst 0, .inr (.inl 0)), (15, .putfield 15, .inl 0), (18, .aload_n 0, .inl 0), (19, .iconst 0, .inr (.inl 0)), (20, .putfield 19, .inl 0), (23, .aload_n 0, .inl 0), (24, .iconst (-1), .inr (.inl (-1))), (25, .putfield 22, .inl 0), (28, .aload_n 0, .inl 0), (29, .iconst 0, .inr (.inl 0)), (30, .putfield 25, .inl 0), (33, .aload_n 0, .inl 0), (34, .iconst 0, .inr (.inl 0)), (35, .putfield 28, .inl 0), (38, .aload_n 0, .inl 0), (39, .iconst 0, .inr (.inl 0)), (40, .putfield 31, .inl 0), (43, .aload_n 0, .inl 0), (44, .iconst 0, .inr (.inl 0)), (45, .putfield 34, .inl 0), (48, .return_, .inl 0)])]
def uX8_init : yF := yfn [(9, 8, 0, 2), (15, 8, 1, 0), (19, 8, 2, 0), (22, 8, 3, 0), (25, 8, 4, 0), (28, 8, 5, 0), (31, 8, 6, 0), (34, 8, 7, 0)] [] [] 3 tX8_init 30 1 1 800
theorem wcX8_init : Cond.code yX8_init cX8_init 1 none ∈ xTB := (xt1 (List.mem_of_getElem? (i := 34) rfl) rfl)
theorem wiX8_init : Cond.instanceMethod yX8_init ∈ xTB := (xt1 (List.mem_of_getElem? (i := 33) rfl) rfl)
set_option maxRecDepth 100000 in
theorem vX8_init {D : xD} : yC D yX8_init cX8_init 1 1 1 800 uX8_init := ymet (own := RX8) ycg_ok xcg_ok (by decide) rfl rfl (by decide +kernel) (List.forall_mem_cons.mpr ⟨yoX8_9, List.forall_mem_cons.mpr ⟨yoX8_15, List.forall_mem_cons.mpr ⟨yoX8_19, List.forall_mem_cons.mpr ⟨yoX8_22, List.forall_mem_cons.mpr ⟨yoX8_25, List.forall_mem_cons.mpr ⟨yoX8_28, List.forall_mem_cons.mpr ⟨yoX8_31, List.forall_mem_cons.mpr ⟨yoX8_34, fun _ h => absurd h List.not_mem_nil⟩⟩⟩⟩⟩⟩⟩⟩) (fun _ h => absurd h List.not_mem_nil) (fun _ h => absurd h List.not_mem_nil) ⟨(xt1 (List.mem_of_getElem? (i := 35) rfl) rfl), yoi.1, yoi.2⟩ yarr (by decide)
theorem yoX3_9 : yfo RX3 (9, 3, 0, 2) := ⟨RX3, TX3, 2, rfl, by decide, (xt1 (List.mem_of_getElem? (i := 176) rfl) rfl), rfl, rfl, rfl⟩
theorem yoX3_15 : yfo RX3 (15, 3, 1, 0) := ⟨RX3, TX3, 2, rfl, by decide, (xt1 (List.mem_of_getElem? (i := 178) rfl) rfl), rfl, rfl, rfl⟩
def tX3_init : xT := [(0, none, [(0, .aload_n 0, .inl 0), (1, .invokespecial 3, .inl 0), (4, .aload_n 0, .inl 0), (5, .bipush 9, .inr (.inl 9)), (7, .newarray .int, .inl 0), (9, .putfield 9, .inl 0), (12, .aload_n 0, .inl 0), (13, .iconst 0, .inr (.inl 0)), (14, .putfield 15, .inl 0), (17, .return_, .inl 0)])]
def uX3_init : yF := yfn [(9, 3, 0, 2), (15, 3, 1, 0)] [] [] 3 tX3_init 12 1 1 9
theorem wcX3_init : Cond.code yX3_init cX3_init 1 none ∈ xTB := (xt1 (List.mem_of_getElem? (i := 174) rfl) rfl)
theorem wiX3_init : Cond.instanceMethod yX3_init ∈ xTB := (xt1 (List.mem_of_getElem? (i := 173) rfl) rfl)
set_option maxRecDepth 100000 in
theorem vX3_init {D : xD} : yC D yX3_init cX3_init 1 1 1 9 uX3_init := ymet (own := RX3) ycg_ok xcg_ok (by decide) rfl rfl (by decide +kernel) (List.forall_mem_cons.mpr ⟨yoX3_9, List.forall_mem_cons.mpr ⟨yoX3_15, fun _ h => absurd h List.not_mem_nil⟩⟩) (fun _ h => absurd h List.not_mem_nil) (fun _ h => absurd h List.not_mem_nil) ⟨(xt1 (List.mem_of_getElem? (i := 175) rfl) rfl), yoi.1, yoi.2⟩ yarr (by decide)
theorem yoX5_9 : yfo RX5 (9, 5, 0, 0) := ⟨RX5, TX5, 10, rfl, by decide, (xt1 (List.mem_of_getElem? (i := 89) rfl) rfl), rfl, rfl, rfl⟩
theorem yoX5_15 : yfo RX5 (15, 5, 1, 0) := ⟨RX5, TX5, 10, rfl, by decide, (xt1 (List.mem_of_getElem? (i := 96) rfl) rfl), rfl, rfl, rfl⟩
theorem yoX5_18 : yfo RX5 (18, 5, 2, 0) := ⟨RX5, TX5, 10, rfl, by decide, (xt1 (List.mem_of_getElem? (i := 99) rfl) rfl), rfl, rfl, rfl⟩
theorem yoX5_21 : yfo RX5 (21, 5, 3, 2) := ⟨RX5, TX5, 10, rfl, by decide, (xt1 (List.mem_of_getElem? (i := 102) rfl) rfl), rfl, rfl, rfl⟩
theorem yoX5_28 : yfo RX5 (28, 5, 4, 2) := ⟨RX5, TX5, 10, rfl, by decide, (xt1 (List.mem_of_getElem? (i := 104) rfl) rfl), rfl, rfl, rfl⟩
theorem yoX5_32 : yfo RX5 (32, 5, 5, 2) := ⟨RX5, TX5, 10, rfl, by decide, (xt1 (List.mem_of_getElem? (i := 108) rfl) rfl), rfl, rfl, rfl⟩
theorem yoX5_36 : yfo RX5 (36, 5, 6, 2) := ⟨RX5, TX5, 10, rfl, by decide, (xt1 (List.mem_of_getElem? (i := 112) rfl) rfl), rfl, rfl, rfl⟩
theorem yoX5_39 : yfo RX5 (39, 5, 7, 2) := ⟨RX5, TX5, 10, rfl, by decide, (xt1 (List.mem_of_getElem? (i := 113) rfl) rfl), rfl, rfl, rfl⟩
theorem yoX5_42 : yfo RX5 (42, 5, 8, 2) := ⟨RX5, TX5, 10, rfl, by decide, (xt1 (List.mem_of_getElem? (i := 114) rfl) rfl), rfl, rfl, rfl⟩
theorem yoX5_45 : yfo RX5 (45, 5, 9, 2) := ⟨RX5, TX5, 10, rfl, by decide, (xt1 (List.mem_of_getElem? (i := 115) rfl) rfl), rfl, rfl, rfl⟩
def tX5_init : xT := [(0, none, [(0, .aload_n 0, .inl 0), (1, .invokespecial 3, .inl 0), (4, .aload_n 0, .inl 0), (5, .iconst 0, .inr (.inl 0)), (6, .putfield 9, .inl 0), (9, .aload_n 0, .inl 0), (10, .iconst 0, .inr (.inl 0)), (11, .putfield 15, .inl 0), (14, .aload_n 0, .inl 0), (15, .iconst 0, .inr (.inl 0)), (16, .putfield 18, .inl 0), (19, .aload_n 0, .inl 0), (20, .bipush 6, .inr (.inl 6)), (22, .newarray .int, .inl 0), (24, .putfield 21, .inl 0), (27, .aload_n 0, .inl 0), (28, .new 25, .inl 0), (31, .dup, .inl 0), (32, .invokespecial 27, .inl 0), (35, .putfield 28, .inl 0), (38, .aload_n 0, .inl 0), (39, .bipush 9, .inr (.inl 9)), (41, .anewarray 25, .inl 0), (44, .putfield 32, .inl 0), (47, .aload_n 0, .inl 0), (48, .bipush 9, .inr (.inl 9)), (50, .newarray .int, .inl 0), (52, .putfield 36, .inl 0), (55, .aload_n 0, .inl 0), (56, .bipush 8, .inr (.inl 8)), (58, .newarray .int, .inl 0), (60, .putfield 39, .inl 0), (63, .aload_n 0, .inl 0), (64, .bipush 8, .inr (.inl 8)), (66, .newarray .int, .inl 0), (68, .putfield 42, .inl 0), (71, .aload_n 0, .inl 0), (72, .bipush 8, .inr (.inl 8)), (74, .newarray .int, .inl 0), (76, .putfield 45, .inl 0), (79, .iconst 0, .inr (.inl 0)), (80, .istore_n 1, .inl 0)]),
  (81, none, [(81, .iload_n 1, .inl 0), (82, .bipush 9, .inr (.inl 9)), (84, .if_icmp .ge 22, .inl 106), (87, .aload_n 0, .inl 0), (88, .getfield 32, .inl 0), (91, .iload_n 1, .inl 0), (92, .new 25, .inl 0), (95, .dup, .inl 0), (96, .invokespecial 27, .inl 0), (99, .aastore, .inl 0), (100, .iinc 1 1, .inr (.inl 1)), (103, .goto (-22), .inl 81)]),
  (106, none, [(106, .return_, .inl 0)])]
def uX5_init : yF := yfn [(9, 5, 0, 0), (15, 5, 1, 0), (18, 5, 2, 0), (21, 5, 3, 2), (28, 5, 4, 2), (32, 5, 5, 2), (36, 5, 6, 2), (39, 5, 7, 2), (42, 5, 8, 2), (45, 5, 9, 2)] [(25, 6)] [(27, 1, 1, 8, uX6_init)] 3 tX5_init 156 2 26 138
theorem wcX5_init : Cond.code yX5_init cX5_init 2 none ∈ xTB := (xt1 (List.mem_of_getElem? (i := 74) rfl) rfl)
theorem wiX5_init : Cond.instanceMethod yX5_init ∈ xTB := (xt1 (List.mem_of_getElem? (i := 73) rfl) rfl)
set_option maxRecDepth 100000 in
theorem vX5_init {D : xD} : yC D yX5_init cX5_init 2 2 26 138 uX5_init := ymet (own := RX5) ycg_ok xcg_ok (by decide) rfl rfl (by decide +kernel) (List.forall_mem_cons.mpr ⟨yoX5_9, List.forall_mem_cons.mpr ⟨yoX5_15, List.forall_mem_cons.mpr ⟨yoX5_18, List.forall_mem_cons.mpr ⟨yoX5_21, List.forall_mem_cons.mpr ⟨yoX5_28, List.forall_mem_cons.mpr ⟨yoX5_32, List.forall_mem_cons.mpr ⟨yoX5_36, List.forall_mem_cons.mpr ⟨yoX5_39, List.forall_mem_cons.mpr ⟨yoX5_42, List.forall_mem_cons.mpr ⟨yoX5_45, fun _ h => absurd h List.not_mem_nil⟩⟩⟩⟩⟩⟩⟩⟩⟩⟩) (List.forall_mem_cons.mpr ⟨⟨RX6, TX6, 1, rfl, xt1 (List.mem_of_getElem? (i := 76) rfl) rfl, ⟨xt1 (List.mem_of_getElem? (i := 77) rfl) rfl, xinX6⟩, by decide +kernel⟩, fun _ h => absurd h List.not_mem_nil⟩) (List.forall_mem_cons.mpr ⟨yco_N vX6_init ⟨by decide, by decide⟩ (List.mem_of_getElem? (i := 19) rfl) wiX6_init xinX6 wcX6_init rfl (by decide +kernel), fun _ h => absurd h List.not_mem_nil⟩) ⟨(xt1 (List.mem_of_getElem? (i := 75) rfl) rfl), yoi.1, yoi.2⟩ yarr (by decide)
theorem yoX9_12 : yfo RX9 (12, 9, 0, 2) := ⟨RX9, TX9, 5, rfl, by decide, (xt1 (List.mem_of_getElem? (i := 147) rfl) rfl), rfl, rfl, rfl⟩
theorem yoX9_21 : yfo RX9 (21, 9, 2, 2) := ⟨RX9, TX9, 5, rfl, by decide, (xt1 (List.mem_of_getElem? (i := 150) rfl) rfl), rfl, rfl, rfl⟩
theorem yoX9_25 : yfo RX9 (25, 9, 3, 2) := ⟨RX9, TX9, 5, rfl, by decide, (xt1 (List.mem_of_getElem? (i := 151) rfl) rfl), rfl, rfl, rfl⟩
theorem yoX9_29 : yfo RX9 (29, 9, 4, 0) := ⟨RX9, TX9, 5, rfl, by decide, (xt1 (List.mem_of_getElem? (i := 152) rfl) rfl), rfl, rfl, rfl⟩
theorem yoX9_33 : yfo RX9 (33, 9, 1, 2) := ⟨RX9, TX9, 5, rfl, by decide, (xt1 (List.mem_of_getElem? (i := 149) rfl) rfl), rfl, rfl, rfl⟩
def tX9_init : xT := [(0, none, [(0, .aload_n 0, .inl 0), (1, .invokespecial 3, .inl 0), (4, .aload_n 0, .inl 0), (5, .new 9, .inl 0), (8, .dup, .inl 0), (9, .invokespecial 11, .inl 0), (12, .putfield 12, .inl 0), (15, .aload_n 0, .inl 0), (16, .new 18, .inl 0), (19, .dup, .inl 0), (20, .invokespecial 20, .inl 0), (23, .putfield 21, .inl 0), (26, .aload_n 0, .inl 0), (27, .bipush 6, .inr (.inl 6)), (29, .newarray .int, .inl 0), (31, .putfield 25, .inl 0), (34, .aload_n 0, .inl 0), (35, .iconst 0, .inr (.inl 0)), (36, .putfield 29, .inl 0), (39, .aload_n 0, .inl 0), (40, .aload_n 1, .inl 0), (41, .putfield 33, .inl 0), (44, .return_, .inl 0)])]
def uX9_init : yF := yfn [(12, 9, 0, 2), (21, 9, 2, 2), (25, 9, 3, 2), (29, 9, 4, 0), (33, 9, 1, 2)] [(9, 5), (18, 6)] [(11, 1, 26, 138, uX5_init), (20, 1, 1, 8, uX6_init)] 3 tX9_init 25 2 30 163
theorem wcX9_init : Cond.code yX9_init cX9_init 2 none ∈ xTB := (xt1 (List.mem_of_getElem? (i := 141) rfl) rfl)
theorem wiX9_init : Cond.instanceMethod yX9_init ∈ xTB := (xt1 (List.mem_of_getElem? (i := 140) rfl) rfl)
set_option maxRecDepth 100000 in
theorem vX9_init {D : xD} : yC D yX9_init cX9_init 2 3 30 163 uX9_init := ymet (own := RX9) ycg_ok xcg_ok (by decide) rfl rfl (by decide +kernel) (List.forall_mem_cons.mpr ⟨yoX9_12, List.forall_mem_cons.mpr ⟨yoX9_21, List.forall_mem_cons.mpr ⟨yoX9_25, List.forall_mem_cons.mpr ⟨yoX9_29, List.forall_mem_cons.mpr ⟨yoX9_33, fun _ h => absurd h List.not_mem_nil⟩⟩⟩⟩⟩) (List.forall_mem_cons.mpr ⟨⟨RX5, TX5, 10, rfl, xt1 (List.mem_of_getElem? (i := 143) rfl) rfl, ⟨xt1 (List.mem_of_getElem? (i := 71) rfl) rfl, xinX5⟩, by decide +kernel⟩, List.forall_mem_cons.mpr ⟨⟨RX6, TX6, 1, rfl, xt1 (List.mem_of_getElem? (i := 145) rfl) rfl, ⟨xt1 (List.mem_of_getElem? (i := 77) rfl) rfl, xinX6⟩, by decide +kernel⟩, fun _ h => absurd h List.not_mem_nil⟩⟩) (List.forall_mem_cons.mpr ⟨yco_I vX5_init ⟨by decide, by decide⟩ (xt1 (List.mem_of_getElem? (i := 144) rfl) rfl) wiX5_init xinX5 wcX5_init rfl (by decide +kernel), List.forall_mem_cons.mpr ⟨yco_N vX6_init ⟨by decide, by decide⟩ (List.mem_of_getElem? (i := 26) rfl) wiX6_init xinX6 wcX6_init rfl (by decide +kernel), fun _ h => absurd h List.not_mem_nil⟩⟩) ⟨(xt1 (List.mem_of_getElem? (i := 142) rfl) rfl), yoi.1, yoi.2⟩ yarr (by decide)
theorem yoX4_12 : yfo RX4 (12, 4, 2, 2) := ⟨RX4, TX4, 10, rfl, by decide, (xt1 (List.mem_of_getElem? (i := 187) rfl) rfl), rfl, rfl, rfl⟩
theorem yoX4_18 : yfo RX4 (18, 4, 3, 2) := ⟨RX4, TX4, 10, rfl, by decide, (xt1 (List.mem_of_getElem? (i := 188) rfl) rfl), rfl, rfl, rfl⟩
theorem yoX4_22 : yfo RX4 (22, 4, 4, 2) := ⟨RX4, TX4, 10, rfl, by decide, (xt1 (List.mem_of_getElem? (i := 189) rfl) rfl), rfl, rfl, rfl⟩
theorem yoX4_25 : yfo RX4 (25, 4, 5, 0) := ⟨RX4, TX4, 10, rfl, by decide, (xt1 (List.mem_of_getElem? (i := 190) rfl) rfl), rfl, rfl, rfl⟩
theorem yoX4_29 : yfo RX4 (29, 4, 6, 0) := ⟨RX4, TX4, 10, rfl, by decide, (xt1 (List.mem_of_getElem? (i := 191) rfl) rfl), rfl, rfl, rfl⟩
theorem yoX4_32 : yfo RX4 (32, 4, 7, 0) := ⟨RX4, TX4, 10, rfl, by decide, (xt1 (List.mem_of_getElem? (i := 192) rfl) rfl), rfl, rfl, rfl⟩
theorem yoX4_35 : yfo RX4 (35, 4, 8, 0) := ⟨RX4, TX4, 10, rfl, by decide, (xt1 (List.mem_of_getElem? (i := 194) rfl) rfl), rfl, rfl, rfl⟩
theorem yoX4_38 : yfo RX4 (38, 4, 9, 0) := ⟨RX4, TX4, 10, rfl, by decide, (xt1 (List.mem_of_getElem? (i := 195) rfl) rfl), rfl, rfl, rfl⟩
theorem yoX4_41 : yfo RX4 (41, 4, 0, 2) := ⟨RX4, TX4, 10, rfl, by decide, (xt1 (List.mem_of_getElem? (i := 185) rfl) rfl), rfl, rfl, rfl⟩
theorem yoX4_45 : yfo RX4 (45, 4, 1, 2) := ⟨RX4, TX4, 10, rfl, by decide, (xt1 (List.mem_of_getElem? (i := 186) rfl) rfl), rfl, rfl, rfl⟩
def tX4_init : xT := [(0, none, [(0, .aload_n 0, .inl 0), (1, .invokespecial 3, .inl 0), (4, .aload_n 0, .inl 0), (5, .new 9, .inl 0), (8, .dup, .inl 0), (9, .invokespecial 11, .inl 0), (12, .putfield 12, .inl 0), (15, .aload_n 0, .inl 0), (16, .bipush 16, .inr (.inl 16)), (18, .newarray .int, .inl 0), (20, .putfield 18, .inl 0), (23, .aload_n 0, .inl 0), (24, .bipush 16, .inr (.inl 16)), (26, .newarray .int, .inl 0), (28, .putfield 22, .inl 0), (31, .aload_n 0, .inl 0), (32, .iconst 0, .inr (.inl 0)), (33, .putfield 25, .inl 0), (36, .aload_n 0, .inl 0), (37, .iconst (-1), .inr (.inl (-1))), (38, .putfield 29, .inl 0), (41, .aload_n 0, .inl 0), (42, .iconst 0, .inr (.inl 0)), (43, .putfield 32, .inl 0), (46, .aload_n 0, .inl 0), (47, .iconst 0, .inr (.inl 0)), (48, .putfield 35, .inl 0), (51, .aload_n 0, .inl 0), (52, .iconst (-1), .inr (.inl (-1))), (53, .putfield 38, .inl 0), (56, .aload_n 0, .inl 0), (57, .aload_n 1, .inl 0), (58, .putfield 41, .inl 0), (61, .aload_n 0, .inl 0), (62, .aload_n 2, .inl 0), (63, .putfield 45, .inl 0), (66, .return_, .inl 0)])]
def uX4_init : yF := yfn [(12, 4, 2, 2), (18, 4, 3, 2), (22, 4, 4, 2), (25, 4, 5, 0), (29, 4, 6, 0), (32, 4, 7, 0), (35, 4, 8, 0), (38, 4, 9, 0), (41, 4, 0, 2), (45, 4, 1, 2)] [(9, 3)] [(11, 1, 1, 9, uX3_init)] 3 tX4_init 39 3 4 43
theorem wcX4_init : Cond.code yX4_init cX4_init 3 none ∈ xTB := (xt1 (List.mem_of_getElem? (i := 168) rfl) rfl)
theorem wiX4_init : Cond.instanceMethod yX4_init ∈ xTB := (xt1 (List.mem_of_getElem? (i := 167) rfl) rfl)
set_option maxRecDepth 100000 in
theorem vX4_init {D : xD} : yC D yX4_init cX4_init 3 2 4 43 uX4_init := ymet (own := RX4) ycg_ok xcg_ok (by decide) rfl rfl (by decide +kernel) (List.forall_mem_cons.mpr ⟨yoX4_12, List.forall_mem_cons.mpr ⟨yoX4_18, List.forall_mem_cons.mpr ⟨yoX4_22, List.forall_mem_cons.mpr ⟨yoX4_25, List.forall_mem_cons.mpr ⟨yoX4_29, List.forall_mem_cons.mpr ⟨yoX4_32, List.forall_mem_cons.mpr ⟨yoX4_35, List.forall_mem_cons.mpr ⟨yoX4_38, List.forall_mem_cons.mpr ⟨yoX4_41, List.forall_mem_cons.mpr ⟨yoX4_45, fun _ h => absurd h List.not_mem_nil⟩⟩⟩⟩⟩⟩⟩⟩⟩⟩) (List.forall_mem_cons.mpr ⟨⟨RX3, TX3, 2, rfl, xt1 (List.mem_of_getElem? (i := 170) rfl) rfl, ⟨xt1 (List.mem_of_getElem? (i := 171) rfl) rfl, xinX3⟩, by decide +kernel⟩, fun _ h => absurd h List.not_mem_nil⟩) (List.forall_mem_cons.mpr ⟨yco_N vX3_init ⟨by decide, by decide⟩ (List.mem_of_getElem? (i := 17) rfl) wiX3_init xinX3 wcX3_init rfl (by decide +kernel), fun _ h => absurd h List.not_mem_nil⟩) ⟨(xt1 (List.mem_of_getElem? (i := 169) rfl) rfl), yoi.1, yoi.2⟩ yarr (by decide)
theorem yoX10_11 : yfo RX10 (11, 10, 1, 2) := ⟨RX10, TX10, 7, rfl, by decide, (xt1 (List.mem_of_getElem? (i := 226) rfl) rfl), rfl, rfl, rfl⟩
theorem yoX10_18 : yfo RX10 (18, 10, 2, 2) := ⟨RX10, TX10, 7, rfl, by decide, (xt1 (List.mem_of_getElem? (i := 227) rfl) rfl), rfl, rfl, rfl⟩
theorem yoX10_22 : yfo RX10 (22, 10, 3, 2) := ⟨RX10, TX10, 7, rfl, by decide, (xt1 (List.mem_of_getElem? (i := 228) rfl) rfl), rfl, rfl, rfl⟩
theorem yoX10_25 : yfo RX10 (25, 10, 4, 2) := ⟨RX10, TX10, 7, rfl, by decide, (xt1 (List.mem_of_getElem? (i := 229) rfl) rfl), rfl, rfl, rfl⟩
theorem yoX10_29 : yfo RX10 (29, 10, 5, 2) := ⟨RX10, TX10, 7, rfl, by decide, (xt1 (List.mem_of_getElem? (i := 230) rfl) rfl), rfl, rfl, rfl⟩
theorem yoX10_32 : yfo RX10 (32, 10, 6, 2) := ⟨RX10, TX10, 7, rfl, by decide, (xt1 (List.mem_of_getElem? (i := 231) rfl) rfl), rfl, rfl, rfl⟩
theorem yoX10_36 : yfo RX10 (36, 10, 0, 2) := ⟨RX10, TX10, 7, rfl, by decide, (xt1 (List.mem_of_getElem? (i := 225) rfl) rfl), rfl, rfl, rfl⟩
def tX10_init : xT := [(0, none, [(0, .aload_n 0, .inl 0), (1, .invokespecial 3, .inl 0), (4, .aload_n 0, .inl 0), (5, .bipush 9, .inr (.inl 9)), (7, .anewarray 9, .inl 0), (10, .putfield 11, .inl 0), (13, .aload_n 0, .inl 0), (14, .new 9, .inl 0), (17, .dup, .inl 0), (18, .invokespecial 17, .inl 0), (21, .putfield 18, .inl 0), (24, .aload_n 0, .inl 0), (25, .new 9, .inl 0), (28, .dup, .inl 0), (29, .invokespecial 17, .inl 0), (32, .putfield 22, .inl 0), (35, .aload_n 0, .inl 0), (36, .sipush 512, .inr (.inl 512)), (39, .newarray .long, .inl 0), (41, .putfield 25, .inl 0), (44, .aload_n 0, .inl 0), (45, .bipush 9, .inr (.inl 9)), (47, .newarray .long, .inl 0), (49, .putfield 29, .inl 0), (52, .aload_n 0, .inl 0), (53, .bipush 10, .inr (.inl 10)), (55, .newarray .int, .inl 0), (57, .putfield 32, .inl 0), (60, .aload_n 0, .inl 0), (61, .aload_n 1, .inl 0), (62, .putfield 36, .inl 0), (65, .iconst 0, .inr (.inl 0)), (66, .istore_n 2, .inl 0)]),
  (67, none, [(67, .iload_n 2, .inl 0), (68, .bipush 9, .inr (.inl 9)), (70, .if_icmp .ge 22, .inl 92), (73, .aload_n 0, .inl 0), (74, .getfield 11, .inl 0), (77, .iload_n 2, .inl 0), (78, .new 9, .inl 0), (81, .dup, .inl 0), (82, .invokespecial 17, .inl 0), (85, .aastore, .inl 0), (86, .iinc 2 1, .inr (.inl 1)), (89, .goto (-22), .inl 67)]),
  (92, none, [(92, .return_, .inl 0)])]
def uX10_init : yF := yfn [(11, 10, 1, 2), (18, 10, 2, 2), (22, 10, 3, 2), (25, 10, 4, 2), (29, 10, 5, 2), (32, 10, 6, 2), (36, 10, 0, 2)] [(9, 6)] [(17, 1, 1, 8, uX6_init)] 3 tX10_init 147 3 26 639
theorem wcX10_init : Cond.code yX10_init cX10_init 3 none ∈ xTB := (xt1 (List.mem_of_getElem? (i := 221) rfl) rfl)
theorem wiX10_init : Cond.instanceMethod yX10_init ∈ xTB := (xt1 (List.mem_of_getElem? (i := 220) rfl) rfl)
set_option maxRecDepth 100000 in
theorem vX10_init {D : xD} : yC D yX10_init cX10_init 3 2 26 639 uX10_init := ymet (own := RX10) ycg_ok xcg_ok (by decide) rfl rfl (by decide +kernel) (List.forall_mem_cons.mpr ⟨yoX10_11, List.forall_mem_cons.mpr ⟨yoX10_18, List.forall_mem_cons.mpr ⟨yoX10_22, List.forall_mem_cons.mpr ⟨yoX10_25, List.forall_mem_cons.mpr ⟨yoX10_29, List.forall_mem_cons.mpr ⟨yoX10_32, List.forall_mem_cons.mpr ⟨yoX10_36, fun _ h => absurd h List.not_mem_nil⟩⟩⟩⟩⟩⟩⟩) (List.forall_mem_cons.mpr ⟨⟨RX6, TX6, 1, rfl, xt1 (List.mem_of_getElem? (i := 223) rfl) rfl, ⟨xt1 (List.mem_of_getElem? (i := 77) rfl) rfl, xinX6⟩, by decide +kernel⟩, fun _ h => absurd h List.not_mem_nil⟩) (List.forall_mem_cons.mpr ⟨yco_N vX6_init ⟨by decide, by decide⟩ (List.mem_of_getElem? (i := 28) rfl) wiX6_init xinX6 wcX6_init rfl (by decide +kernel), fun _ h => absurd h List.not_mem_nil⟩) ⟨(xt1 (List.mem_of_getElem? (i := 222) rfl) rfl), yoi.1, yoi.2⟩ yarr (by decide)
theorem yoX0_12 : yfo RX0 (12, 0, 1, 2) := ⟨RX0, TX0, 7, rfl, by decide, (xt2 (List.mem_of_getElem? (i := 16) rfl) rfl), rfl, rfl, rfl⟩
theorem yoX0_18 : yfo RX0 (18, 0, 2, 2) := ⟨RX0, TX0, 7, rfl, by decide, (xt2 (List.mem_of_getElem? (i := 17) rfl) rfl), rfl, rfl, rfl⟩
theorem yoX0_22 : yfo RX0 (22, 0, 3, 2) := ⟨RX0, TX0, 7, rfl, by decide, (xt2 (List.mem_of_getElem? (i := 18) rfl) rfl), rfl, rfl, rfl⟩
theorem yoX0_25 : yfo RX0 (25, 0, 4, 2) := ⟨RX0, TX0, 7, rfl, by decide, (xt2 (List.mem_of_getElem? (i := 19) rfl) rfl), rfl, rfl, rfl⟩
theorem yoX0_28 : yfo RX0 (28, 0, 5, 2) := ⟨RX0, TX0, 7, rfl, by decide, (xt2 (List.mem_of_getElem? (i := 21) rfl) rfl), rfl, rfl, rfl⟩
theorem yoX0_31 : yfo RX0 (31, 0, 6, 3) := ⟨RX0, TX0, 7, rfl, by decide, (xt2 (List.mem_of_getElem? (i := 24) rfl) rfl), rfl, rfl, rfl⟩
theorem yoX0_35 : yfo RX0 (35, 0, 0, 2) := ⟨RX0, TX0, 7, rfl, by decide, (xt2 (List.mem_of_getElem? (i := 15) rfl) rfl), rfl, rfl, rfl⟩
def tX0_init : xT := [(0, none, [(0, .aload_n 0, .inl 0), (1, .invokespecial 3, .inl 0), (4, .aload_n 0, .inl 0), (5, .new 9, .inl 0), (8, .dup, .inl 0), (9, .invokespecial 11, .inl 0), (12, .putfield 12, .inl 0), (15, .aload_n 0, .inl 0), (16, .bipush 9, .inr (.inl 9)), (18, .newarray .int, .inl 0), (20, .putfield 18, .inl 0), (23, .aload_n 0, .inl 0), (24, .bipush 9, .inr (.inl 9)), (26, .newarray .int, .inl 0), (28, .putfield 22, .inl 0), (31, .aload_n 0, .inl 0), (32, .sipush 512, .inr (.inl 512)), (35, .newarray .int, .inl 0), (37, .putfield 25, .inl 0), (40, .aload_n 0, .inl 0), (41, .sipush 512, .inr (.inl 512)), (44, .newarray .int, .inl 0), (46, .putfield 28, .inl 0), (49, .aload_n 0, .inl 0), (50, .iconst 0, .inr (.inl 0)), (51, .putfield 31, .inl 0), (54, .aload_n 0, .inl 0), (55, .aload_n 1, .inl 0), (56, .putfield 35, .inl 0), (59, .return_, .inl 0)])]
def uX0_init : yF := yfn [(12, 0, 1, 2), (18, 0, 2, 2), (22, 0, 3, 2), (25, 0, 4, 2), (28, 0, 5, 2), (31, 0, 6, 3), (35, 0, 0, 2)] [(9, 6)] [(11, 1, 1, 8, uX6_init)] 3 tX0_init 32 2 6 1051
theorem wcX0_init : Cond.code yX0_init cX0_init 2 none ∈ xTB := (xt2 (List.mem_of_getElem? (i := 11) rfl) rfl)
theorem wiX0_init : Cond.instanceMethod yX0_init ∈ xTB := (xt2 (List.mem_of_getElem? (i := 10) rfl) rfl)
set_option maxRecDepth 100000 in
theorem vX0_init {D : xD} : yC D yX0_init cX0_init 2 2 6 1051 uX0_init := ymet (own := RX0) ycg_ok xcg_ok (by decide) rfl rfl (by decide +kernel) (List.forall_mem_cons.mpr ⟨yoX0_12, List.forall_mem_cons.mpr ⟨yoX0_18, List.forall_mem_cons.mpr ⟨yoX0_22, List.forall_mem_cons.mpr ⟨yoX0_25, List.forall_mem_cons.mpr ⟨yoX0_28, List.forall_mem_cons.mpr ⟨yoX0_31, List.forall_mem_cons.mpr ⟨yoX0_35, fun _ h => absurd h List.not_mem_nil⟩⟩⟩⟩⟩⟩⟩) (List.forall_mem_cons.mpr ⟨⟨RX6, TX6, 1, rfl, xt2 (List.mem_of_getElem? (i := 13) rfl) rfl, ⟨xt1 (List.mem_of_getElem? (i := 77) rfl) rfl, xinX6⟩, by decide +kernel⟩, fun _ h => absurd h List.not_mem_nil⟩) (List.forall_mem_cons.mpr ⟨yco_N vX6_init ⟨by decide, by decide⟩ (List.mem_of_getElem? (i := 5) rfl) wiX6_init xinX6 wcX6_init rfl (by decide +kernel), fun _ h => absurd h List.not_mem_nil⟩) ⟨(xt2 (List.mem_of_getElem? (i := 12) rfl) rfl), yoi.1, yoi.2⟩ yarr (by decide)
theorem yoX2_9 : yfo RX2 (9, 2, 0, 2) := ⟨RX2, TX2, 9, rfl, by decide, (xt2 (List.mem_of_getElem? (i := 46) rfl) rfl), rfl, rfl, rfl⟩
theorem yoX2_15 : yfo RX2 (15, 2, 1, 2) := ⟨RX2, TX2, 9, rfl, by decide, (xt2 (List.mem_of_getElem? (i := 49) rfl) rfl), rfl, rfl, rfl⟩
theorem yoX2_19 : yfo RX2 (19, 2, 2, 2) := ⟨RX2, TX2, 9, rfl, by decide, (xt2 (List.mem_of_getElem? (i := 51) rfl) rfl), rfl, rfl, rfl⟩
theorem yoX2_22 : yfo RX2 (22, 2, 3, 2) := ⟨RX2, TX2, 9, rfl, by decide, (xt2 (List.mem_of_getElem? (i := 53) rfl) rfl), rfl, rfl, rfl⟩
theorem yoX2_25 : yfo RX2 (25, 2, 4, 3) := ⟨RX2, TX2, 9, rfl, by decide, (xt2 (List.mem_of_getElem? (i := 55) rfl) rfl), rfl, rfl, rfl⟩
theorem yoX2_29 : yfo RX2 (29, 2, 5, 2) := ⟨RX2, TX2, 9, rfl, by decide, (xt2 (List.mem_of_getElem? (i := 57) rfl) rfl), rfl, rfl, rfl⟩
theorem yoX2_32 : yfo RX2 (32, 2, 6, 2) := ⟨RX2, TX2, 9, rfl, by decide, (xt2 (List.mem_of_getElem? (i := 58) rfl) rfl), rfl, rfl, rfl⟩
theorem yoX2_36 : yfo RX2 (36, 2, 7, 2) := ⟨RX2, TX2, 9, rfl, by decide, (xt2 (List.mem_of_getElem? (i := 59) rfl) rfl), rfl, rfl, rfl⟩
theorem yoX2_40 : yfo RX2 (40, 2, 8, 2) := ⟨RX2, TX2, 9, rfl, by decide, (xt2 (List.mem_of_getElem? (i := 60) rfl) rfl), rfl, rfl, rfl⟩
def tX2_init : xT := [(0, none, [(0, .aload_n 0, .inl 0), (1, .invokespecial 3, .inl 0), (4, .aload_n 0, .inl 0), (5, .sipush 512, .inr (.inl 512)), (8, .newarray .long, .inl 0), (10, .putfield 9, .inl 0), (13, .aload_n 0, .inl 0), (14, .sipush 512, .inr (.inl 512)), (17, .newarray .int, .inl 0), (19, .putfield 15, .inl 0), (22, .aload_n 0, .inl 0), (23, .sipush 512, .inr (.inl 512)), (26, .newarray .int, .inl 0), (28, .putfield 19, .inl 0), (31, .aload_n 0, .inl 0), (32, .sipush 512, .inr (.inl 512)), (35, .newarray .int, .inl 0), (37, .putfield 22, .inl 0), (40, .aload_n 0, .inl 0), (41, .iconst 0, .inr (.inl 0)), (42, .putfield 25, .inl 0), (45, .aload_n 0, .inl 0), (46, .bipush 18, .inr (.inl 18)), (48, .newarray .int, .inl 0), (50, .putfield 29, .inl 0), (53, .aload_n 0, .inl 0), (54, .aload_n 1, .inl 0), (55, .putfield 32, .inl 0), (58, .aload_n 0, .inl 0), (59, .aload_n 2, .inl 0), (60, .putfield 36, .inl 0), (63, .aload_n 0, .inl 0), (64, .aload_n 3, .inl 0), (65, .putfield 40, .inl 0), (68, .return_, .inl 0)])]
def uX2_init : yF := yfn [(9, 2, 0, 2), (15, 2, 1, 2), (19, 2, 2, 2), (22, 2, 3, 2), (25, 2, 4, 3), (29, 2, 5, 2), (32, 2, 6, 2), (36, 2, 7, 2), (40, 2, 8, 2)] [] [] 3 tX2_init 37 4 5 2066
theorem wcX2_init : Cond.code yX2_init cX2_init 4 none ∈ xTB := (xt2 (List.mem_of_getElem? (i := 44) rfl) rfl)
theorem wiX2_init : Cond.instanceMethod yX2_init ∈ xTB := (xt2 (List.mem_of_getElem? (i := 43) rfl) rfl)
set_option maxRecDepth 100000 in
theorem vX2_init {D : xD} : yC D yX2_init cX2_init 4 1 5 2066 uX2_init := ymet (own := RX2) ycg_ok xcg_ok (by decide) rfl rfl (by decide +kernel) (List.forall_mem_cons.mpr ⟨yoX2_9, List.forall_mem_cons.mpr ⟨yoX2_15, List.forall_mem_cons.mpr ⟨yoX2_19, List.forall_mem_cons.mpr ⟨yoX2_22, List.forall_mem_cons.mpr ⟨yoX2_25, List.forall_mem_cons.mpr ⟨yoX2_29, List.forall_mem_cons.mpr ⟨yoX2_32, List.forall_mem_cons.mpr ⟨yoX2_36, List.forall_mem_cons.mpr ⟨yoX2_40, fun _ h => absurd h List.not_mem_nil⟩⟩⟩⟩⟩⟩⟩⟩⟩) (fun _ h => absurd h List.not_mem_nil) (fun _ h => absurd h List.not_mem_nil) ⟨(xt2 (List.mem_of_getElem? (i := 45) rfl) rfl), yoi.1, yoi.2⟩ yarr (by decide)
theorem yoX7_14 : yfo RX7 (14, 7, 1, 2) := ⟨RX7, TX7, 12, rfl, by decide, (xt2 (List.mem_of_getElem? (i := 89) rfl) rfl), rfl, rfl, rfl⟩
theorem yoX7_18 : yfo RX7 (18, 7, 2, 2) := ⟨RX7, TX7, 12, rfl, by decide, (xt2 (List.mem_of_getElem? (i := 90) rfl) rfl), rfl, rfl, rfl⟩
theorem yoX7_21 : yfo RX7 (21, 7, 3, 2) := ⟨RX7, TX7, 12, rfl, by decide, (xt2 (List.mem_of_getElem? (i := 91) rfl) rfl), rfl, rfl, rfl⟩
theorem yoX7_24 : yfo RX7 (24, 7, 4, 2) := ⟨RX7, TX7, 12, rfl, by decide, (xt2 (List.mem_of_getElem? (i := 92) rfl) rfl), rfl, rfl, rfl⟩
theorem yoX7_27 : yfo RX7 (27, 7, 5, 2) := ⟨RX7, TX7, 12, rfl, by decide, (xt2 (List.mem_of_getElem? (i := 93) rfl) rfl), rfl, rfl, rfl⟩
theorem yoX7_31 : yfo RX7 (31, 7, 6, 2) := ⟨RX7, TX7, 12, rfl, by decide, (xt2 (List.mem_of_getElem? (i := 94) rfl) rfl), rfl, rfl, rfl⟩
theorem yoX7_34 : yfo RX7 (34, 7, 7, 2) := ⟨RX7, TX7, 12, rfl, by decide, (xt2 (List.mem_of_getElem? (i := 95) rfl) rfl), rfl, rfl, rfl⟩
theorem yoX7_38 : yfo RX7 (38, 7, 8, 2) := ⟨RX7, TX7, 12, rfl, by decide, (xt2 (List.mem_of_getElem? (i := 96) rfl) rfl), rfl, rfl, rfl⟩
theorem yoX7_41 : yfo RX7 (41, 7, 9, 2) := ⟨RX7, TX7, 12, rfl, by decide, (xt2 (List.mem_of_getElem? (i := 97) rfl) rfl), rfl, rfl, rfl⟩
theorem yoX7_44 : yfo RX7 (44, 7, 10, 2) := ⟨RX7, TX7, 12, rfl, by decide, (xt2 (List.mem_of_getElem? (i := 98) rfl) rfl), rfl, rfl, rfl⟩
theorem yoX7_47 : yfo RX7 (47, 7, 11, 2) := ⟨RX7, TX7, 12, rfl, by decide, (xt2 (List.mem_of_getElem? (i := 99) rfl) rfl), rfl, rfl, rfl⟩
theorem yoX7_50 : yfo RX7 (50, 7, 0, 2) := ⟨RX7, TX7, 12, rfl, by decide, (xt2 (List.mem_of_getElem? (i := 88) rfl) rfl), rfl, rfl, rfl⟩
def tX7_init : xT := [(0, none, [(0, .aload_n 0, .inl 0), (1, .invokespecial 5, .inl 0), (4, .aload_n 0, .inl 0), (5, .new 11, .inl 0), (8, .dup, .inl 0), (9, .invokespecial 13, .inl 0), (12, .putfield 14, .inl 0), (15, .aload_n 0, .inl 0), (16, .new 11, .inl 0), (19, .dup, .inl 0), (20, .invokespecial 13, .inl 0), (23, .putfield 18, .inl 0), (26, .aload_n 0, .inl 0), (27, .new 11, .inl 0), (30, .dup, .inl 0), (31, .invokespecial 13, .inl 0), (34, .putfield 21, .inl 0), (37, .aload_n 0, .inl 0), (38, .new 11, .inl 0), (41, .dup, .inl 0), (42, .invokespecial 13, .inl 0), (45, .putfield 24, .inl 0), (48, .aload_n 0, .inl 0), (49, .bipush 64, .inr (.inl 64)), (51, .newarray .int, .inl 0), (53, .putfield 27, .inl 0), (56, .aload_n 0, .inl 0), (57, .bipush 64, .inr (.inl 64)), (59, .newarray .int, .inl 0), (61, .putfield 31, .inl 0), (64, .aload_n 0, .inl 0), (65, .bipush 77, .inr (.inl 77)), (67, .newarray .long, .inl 0), (69, .putfield 34, .inl 0), (72, .aload_n 0, .inl 0), (73, .bipush 77, .inr (.inl 77)), (75, .newarray .long, .inl 0), (77, .putfield 38, .inl 0), (80, .aload_n 0, .inl 0), (81, .bipush 77, .inr (.inl 77)), (83, .newarray .long, .inl 0), (85, .putfield 41, .inl 0), (88, .aload_n 0, .inl 0), (89, .bipush 77, .inr (.inl 77)), (91, .newarray .long, .inl 0), (93, .putfield 44, .inl 0), (96, .aload_n 0, .inl 0), (97, .bipush 77, .inr (.inl 77)), (99, .newarray .long, .inl 0), (101, .putfield 47, .inl 0), (104, .aload_n 0, .inl 0), (105, .aload_n 1, .inl 0), (106, .putfield 50, .inl 0), (109, .return_, .inl 0)])]
def uX7_init : yF := yfn [(14, 7, 1, 2), (18, 7, 2, 2), (21, 7, 3, 2), (24, 7, 4, 2), (27, 7, 5, 2), (31, 7, 6, 2), (34, 7, 7, 2), (38, 7, 8, 2), (41, 7, 9, 2), (44, 7, 10, 2), (47, 7, 11, 2), (50, 7, 0, 2)] [(11, 6)] [(13, 1, 1, 8, uX6_init)] 5 tX7_init 56 2 15 549
theorem wcX7_init : Cond.code yX7_init cX7_init 2 none ∈ xTB := (xt2 (List.mem_of_getElem? (i := 84) rfl) rfl)
theorem wiX7_init : Cond.instanceMethod yX7_init ∈ xTB := (xt2 (List.mem_of_getElem? (i := 83) rfl) rfl)
set_option maxRecDepth 100000 in
theorem vX7_init {D : xD} : yC D yX7_init cX7_init 2 2 15 549 uX7_init := ymet (own := RX7) ycg_ok xcg_ok (by decide) rfl rfl (by decide +kernel) (List.forall_mem_cons.mpr ⟨yoX7_14, List.forall_mem_cons.mpr ⟨yoX7_18, List.forall_mem_cons.mpr ⟨yoX7_21, List.forall_mem_cons.mpr ⟨yoX7_24, List.forall_mem_cons.mpr ⟨yoX7_27, List.forall_mem_cons.mpr ⟨yoX7_31, List.forall_mem_cons.mpr ⟨yoX7_34, List.forall_mem_cons.mpr ⟨yoX7_38, List.forall_mem_cons.mpr ⟨yoX7_41, List.forall_mem_cons.mpr ⟨yoX7_44, List.forall_mem_cons.mpr ⟨yoX7_47, List.forall_mem_cons.mpr ⟨yoX7_50, fun _ h => absurd h List.not_mem_nil⟩⟩⟩⟩⟩⟩⟩⟩⟩⟩⟩⟩) (List.forall_mem_cons.mpr ⟨⟨RX6, TX6, 1, rfl, xt2 (List.mem_of_getElem? (i := 86) rfl) rfl, ⟨xt1 (List.mem_of_getElem? (i := 77) rfl) rfl, xinX6⟩, by decide +kernel⟩, fun _ h => absurd h List.not_mem_nil⟩) (List.forall_mem_cons.mpr ⟨yco_N vX6_init ⟨by decide, by decide⟩ (List.mem_of_getElem? (i := 23) rfl) wiX6_init xinX6 wcX6_init rfl (by decide +kernel), fun _ h => absurd h List.not_mem_nil⟩) ⟨(xt2 (List.mem_of_getElem? (i := 85) rfl) rfl), yoi.1, yoi.2⟩ yarr (by decide)
theorem yoX1_9 : yfo RX1 (9, 1, 0, 2) := ⟨RX1, TX1, 11, rfl, by decide, (xt2 (List.mem_of_getElem? (i := 131) rfl) rfl), rfl, rfl, rfl⟩
theorem yoX1_15 : yfo RX1 (15, 1, 1, 2) := ⟨RX1, TX1, 11, rfl, by decide, (xt2 (List.mem_of_getElem? (i := 133) rfl) rfl), rfl, rfl, rfl⟩
theorem yoX1_18 : yfo RX1 (18, 1, 2, 2) := ⟨RX1, TX1, 11, rfl, by decide, (xt2 (List.mem_of_getElem? (i := 135) rfl) rfl), rfl, rfl, rfl⟩
theorem yoX1_21 : yfo RX1 (21, 1, 3, 2) := ⟨RX1, TX1, 11, rfl, by decide, (xt2 (List.mem_of_getElem? (i := 137) rfl) rfl), rfl, rfl, rfl⟩
theorem yoX1_24 : yfo RX1 (24, 1, 4, 2) := ⟨RX1, TX1, 11, rfl, by decide, (xt2 (List.mem_of_getElem? (i := 139) rfl) rfl), rfl, rfl, rfl⟩
theorem yoX1_27 : yfo RX1 (27, 1, 5, 2) := ⟨RX1, TX1, 11, rfl, by decide, (xt2 (List.mem_of_getElem? (i := 140) rfl) rfl), rfl, rfl, rfl⟩
theorem yoX1_31 : yfo RX1 (31, 1, 6, 3) := ⟨RX1, TX1, 11, rfl, by decide, (xt2 (List.mem_of_getElem? (i := 141) rfl) rfl), rfl, rfl, rfl⟩
theorem yoX1_35 : yfo RX1 (35, 1, 7, 3) := ⟨RX1, TX1, 11, rfl, by decide, (xt2 (List.mem_of_getElem? (i := 142) rfl) rfl), rfl, rfl, rfl⟩
theorem yoX1_38 : yfo RX1 (38, 1, 8, 2) := ⟨RX1, TX1, 11, rfl, by decide, (xt2 (List.mem_of_getElem? (i := 143) rfl) rfl), rfl, rfl, rfl⟩
theorem yoX1_42 : yfo RX1 (42, 1, 9, 2) := ⟨RX1, TX1, 11, rfl, by decide, (xt2 (List.mem_of_getElem? (i := 144) rfl) rfl), rfl, rfl, rfl⟩
theorem yoX1_46 : yfo RX1 (46, 1, 10, 2) := ⟨RX1, TX1, 11, rfl, by decide, (xt2 (List.mem_of_getElem? (i := 145) rfl) rfl), rfl, rfl, rfl⟩
def tX1_init : xT := [(0, none, [(0, .aload_n 0, .inl 0), (1, .invokespecial 3, .inl 0), (4, .aload_n 0, .inl 0), (5, .sipush 512, .inr (.inl 512)), (8, .newarray .int, .inl 0), (10, .putfield 9, .inl 0), (13, .aload_n 0, .inl 0), (14, .sipush 512, .inr (.inl 512)), (17, .newarray .int, .inl 0), (19, .putfield 15, .inl 0), (22, .aload_n 0, .inl 0), (23, .sipush 512, .inr (.inl 512)), (26, .newarray .int, .inl 0), (28, .putfield 18, .inl 0), (31, .aload_n 0, .inl 0), (32, .sipush 512, .inr (.inl 512)), (35, .newarray .int, .inl 0), (37, .putfield 21, .inl 0), (40, .aload_n 0, .inl 0), (41, .sipush 512, .inr (.inl 512)), (44, .newarray .int, .inl 0), (46, .putfield 24, .inl 0), (49, .aload_n 0, .inl 0), (50, .sipush 512, .inr (.inl 512)), (53, .newarray .long, .inl 0), (55, .putfield 27, .inl 0), (58, .aload_n 0, .inl 0), (59, .iconst 0, .inr (.inl 0)), (60, .putfield 31, .inl 0), (63, .aload_n 0, .inl 0), (64, .iconst 0, .inr (.inl 0)), (65, .putfield 35, .inl 0), (68, .aload_n 0, .inl 0), (69, .aload_n 1, .inl 0), (70, .putfield 38, .inl 0), (73, .aload_n 0, .inl 0), (74, .aload_n 2, .inl 0), (75, .putfield 42, .inl 0), (78, .aload_n 0, .inl 0), (79, .aload_n 3, .inl 0), (80, .putfield 46, .inl 0), (83, .return_, .inl 0)])]
def uX1_init : yF := yfn [(9, 1, 0, 2), (15, 1, 1, 2), (18, 1, 2, 2), (21, 1, 3, 2), (24, 1, 4, 2), (27, 1, 5, 2), (31, 1, 6, 3), (35, 1, 7, 3), (38, 1, 8, 2), (42, 1, 9, 2), (46, 1, 10, 2)] [] [] 3 tX1_init 44 4 6 3072
theorem wcX1_init : Cond.code yX1_init cX1_init 4 none ∈ xTB := (xt2 (List.mem_of_getElem? (i := 129) rfl) rfl)
theorem wiX1_init : Cond.instanceMethod yX1_init ∈ xTB := (xt2 (List.mem_of_getElem? (i := 128) rfl) rfl)
set_option maxRecDepth 100000 in
theorem vX1_init {D : xD} : yC D yX1_init cX1_init 4 1 6 3072 uX1_init := ymet (own := RX1) ycg_ok xcg_ok (by decide) rfl rfl (by decide +kernel) (List.forall_mem_cons.mpr ⟨yoX1_9, List.forall_mem_cons.mpr ⟨yoX1_15, List.forall_mem_cons.mpr ⟨yoX1_18, List.forall_mem_cons.mpr ⟨yoX1_21, List.forall_mem_cons.mpr ⟨yoX1_24, List.forall_mem_cons.mpr ⟨yoX1_27, List.forall_mem_cons.mpr ⟨yoX1_31, List.forall_mem_cons.mpr ⟨yoX1_35, List.forall_mem_cons.mpr ⟨yoX1_38, List.forall_mem_cons.mpr ⟨yoX1_42, List.forall_mem_cons.mpr ⟨yoX1_46, fun _ h => absurd h List.not_mem_nil⟩⟩⟩⟩⟩⟩⟩⟩⟩⟩⟩) (fun _ h => absurd h List.not_mem_nil) (fun _ h => absurd h List.not_mem_nil) ⟨(xt2 (List.mem_of_getElem? (i := 130) rfl) rfl), yoi.1, yoi.2⟩ yarr (by decide)
theorem yoX11_12 : yfo RX11 (12, 11, 0, 2) := ⟨RX11, TX11, 13, rfl, by decide, (xt2 (List.mem_of_getElem? (i := 171) rfl) rfl), rfl, rfl, rfl⟩
theorem yoX11_19 : yfo RX11 (19, 11, 1, 2) := ⟨RX11, TX11, 13, rfl, by decide, (xt2 (List.mem_of_getElem? (i := 172) rfl) rfl), rfl, rfl, rfl⟩
theorem yoX11_28 : yfo RX11 (28, 11, 2, 2) := ⟨RX11, TX11, 13, rfl, by decide, (xt2 (List.mem_of_getElem? (i := 173) rfl) rfl), rfl, rfl, rfl⟩
theorem yoX11_37 : yfo RX11 (37, 11, 3, 2) := ⟨RX11, TX11, 13, rfl, by decide, (xt2 (List.mem_of_getElem? (i := 174) rfl) rfl), rfl, rfl, rfl⟩
theorem yoX11_46 : yfo RX11 (46, 11, 4, 2) := ⟨RX11, TX11, 13, rfl, by decide, (xt2 (List.mem_of_getElem? (i := 175) rfl) rfl), rfl, rfl, rfl⟩
theorem yoX11_50 : yfo RX11 (50, 11, 5, 2) := ⟨RX11, TX11, 13, rfl, by decide, (xt2 (List.mem_of_getElem? (i := 176) rfl) rfl), rfl, rfl, rfl⟩
theorem yoX11_56 : yfo RX11 (56, 11, 6, 2) := ⟨RX11, TX11, 13, rfl, by decide, (xt2 (List.mem_of_getElem? (i := 177) rfl) rfl), rfl, rfl, rfl⟩
theorem yoX11_60 : yfo RX11 (60, 11, 7, 2) := ⟨RX11, TX11, 13, rfl, by decide, (xt2 (List.mem_of_getElem? (i := 178) rfl) rfl), rfl, rfl, rfl⟩
theorem yoX11_69 : yfo RX11 (69, 11, 8, 2) := ⟨RX11, TX11, 13, rfl, by decide, (xt2 (List.mem_of_getElem? (i := 179) rfl) rfl), rfl, rfl, rfl⟩
theorem yoX11_73 : yfo RX11 (73, 11, 9, 2) := ⟨RX11, TX11, 13, rfl, by decide, (xt2 (List.mem_of_getElem? (i := 180) rfl) rfl), rfl, rfl, rfl⟩
theorem yoX11_79 : yfo RX11 (79, 11, 10, 2) := ⟨RX11, TX11, 13, rfl, by decide, (xt2 (List.mem_of_getElem? (i := 181) rfl) rfl), rfl, rfl, rfl⟩
theorem yoX11_88 : yfo RX11 (88, 11, 11, 2) := ⟨RX11, TX11, 13, rfl, by decide, (xt2 (List.mem_of_getElem? (i := 182) rfl) rfl), rfl, rfl, rfl⟩
theorem yoX11_95 : yfo RX11 (95, 11, 12, 2) := ⟨RX11, TX11, 13, rfl, by decide, (xt2 (List.mem_of_getElem? (i := 183) rfl) rfl), rfl, rfl, rfl⟩
def tX11_init : xT := [(0, none, [(0, .aload_n 0, .inl 0), (1, .invokespecial 3, .inl 0), (4, .aload_n 0, .inl 0), (5, .new 9, .inl 0), (8, .dup, .inl 0), (9, .invokespecial 11, .inl 0), (12, .putfield 12, .inl 0), (15, .aload_n 0, .inl 0), (16, .new 16, .inl 0), (19, .dup, .inl 0), (20, .invokespecial 18, .inl 0), (23, .putfield 19, .inl 0), (26, .aload_n 0, .inl 0), (27, .new 23, .inl 0), (30, .dup, .inl 0), (31, .aload_n 0, .inl 0), (32, .getfield 12, .inl 0), (35, .invokespecial 25, .inl 0), (38, .putfield 28, .inl 0), (41, .aload_n 0, .inl 0), (42, .new 32, .inl 0), (45, .dup, .inl 0), (46, .aload_n 0, .inl 0), (47, .getfield 12, .inl 0), (50, .aload_n 0, .inl 0), (51, .getfield 19, .inl 0), (54, .invokespecial 34, .inl 0), (57, .putfield 37, .inl 0), (60, .aload_n 0, .inl 0), (61, .new 41, .inl 0), (64, .dup, .inl 0), (65, .aload_n 0, .inl 0), (66, .getfield 19, .inl 0), (69, .invokespecial 43, .inl 0), (72, .putfield 46, .inl 0), (75, .aload_n 0, .inl 0), (76, .new 41, .inl 0), (79, .dup, .inl 0), (80, .aload_n 0, .inl 0), (81, .getfield 19, .inl 0), (84, .invokespecial 43, .inl 0), (87, .putfield 50, .inl 0), (90, .aload_n 0, .inl 0), (91, .new 53, .inl 0), (94, .dup, .inl 0), (95, .aload_n 0, .inl 0), (96, .getfield 19, .inl 0), (99, .invokespecial 55, .inl 0), (102, .putfield 56, .inl 0), (105, .aload_n 0, .inl 0), (106, .bipush 7, .inr (.inl 7)), (108, .newarray .int, .inl 0), (110, .dup, .inl 0), (111, .iconst 0, .inr (.inl 0)), (112, .iconst 1, .inr (.inl 1)), (113, .iastore, .inl 0), (114, .dup, .inl 0), (115, .iconst 1, .inr (.inl 1)), (116, .iconst 1, .inr (.inl 1)), (117, .iastore, .inl 0), (118, .dup, .inl 0), (119, .iconst 2, .inr (.inl 2)), (120, .iconst 1, .inr (.inl 1)), (121, .iastore, .inl 0), (122, .dup, .inl 0), (123, .iconst 3, .inr (.inl 3)), (124, .iconst 1, .inr (.inl 1)), (125, .iastore, .inl 0), (126, .dup, .inl 0), (127, .iconst 4, .inr (.inl 4)), (128, .iconst 1, .inr (.inl 1)), (129, .iastore, .inl 0), (130, .dup, .inl 0), (131, .iconst 5, .inr (.inl 5)), (132, .iconst 1, .inr (.inl 1)), (133, .iastore, .inl 0), (134, .dup, .inl 0), (135, .bipush 6, .inr (.inl 6)), (137, .iconst 0, .inr (.inl 0)), (138, .iastore, .inl 0), (139, .putfield 60, .inl 0), (142, .aload_n 0, .inl 0), (143, .new 64, .inl 0), (146, .dup, .inl 0), (147, .aload_n 0, .inl 0), (148, .getfield 19, .inl 0), (151, .aload_n 0, .inl 0), (152, .getfield 56, .inl 0), (155, .aload_n 0, .inl 0), (156, .getfield 60, .inl 0), (159, .invokespecial 66, .inl 0), (162, .putfield 69, .inl 0), (165, .aload_n 0, .inl 0), (166, .new 64, .inl 0), (169, .dup, .inl 0), (170, .aload_n 0, .inl 0), (171, .getfield 19, .inl 0), (174, .aload_n 0, .inl 0), (175, .getfield 56, .inl 0), (178, .aload_n 0, .inl 0), (179, .getfield 60, .inl 0), (182, .invokespecial 66, .inl 0), (185, .putfield 73, .inl 0), (188, .aload_n 0, .inl 0), (189, .new 76, .inl 0), (192, .dup, .inl 0), (193, .aload_n 0, .inl 0), (194, .getfield 19, .inl 0), (197, .invokespecial 78, .inl 0), (200, .putfield 79, .inl 0), (203, .aload_n 0, .inl 0), (204, .new 83, .inl 0), (207, .dup, .inl 0), (208, .aload_n 0, .inl 0), (209, .getfield 19, .inl 0), (212, .aload_n 0, .inl 0), (213, .getfield 46, .inl 0), (216, .aload_n 0, .inl 0), (217, .getfield 79, .inl 0), (220, .invokespecial 85, .inl 0), (223, .putfield 88, .inl 0), (226, .aload_n 0, .inl 0), (227, .new 92, .inl 0), (230, .dup, .inl 0), (231, .invokespecial 94, .inl 0), (234, .putfield 95, .inl 0), (237, .return_, .inl 0)])]
def uX11_init : yF := yfn [(12, 11, 0, 2), (19, 11, 1, 2), (28, 11, 2, 2), (37, 11, 3, 2), (46, 11, 4, 2), (50, 11, 5, 2), (56, 11, 6, 2), (60, 11, 7, 2), (69, 11, 8, 2), (73, 11, 9, 2), (79, 11, 10, 2), (88, 11, 11, 2), (95, 11, 12, 2)] [(9, 8), (16, 5), (23, 9), (32, 4), (41, 10), (53, 0), (64, 2), (76, 7), (83, 1), (92, 3)] [(11, 1, 1, 800, uX8_init), (18, 1, 26, 138, uX5_init), (25, 2, 30, 163, uX9_init), (34, 3, 4, 43, uX4_init), (43, 2, 26, 639, uX10_init), (55, 2, 6, 1051, uX0_init), (66, 4, 5, 2066, uX2_init), (78, 2, 15, 549, uX7_init), (85, 4, 6, 3072, uX1_init), (94, 1, 1, 9, uX3_init)] 3 tX11_init 129 1 164 11339
theorem wcX11_init : Cond.code yX11_init cX11_init 1 none ∈ xTB := (xt1 (List.mem_of_getElem? (i := 26) rfl) rfl)
theorem wiX11_init : Cond.instanceMethod yX11_init ∈ xTB := (xt1 (List.mem_of_getElem? (i := 25) rfl) rfl)
set_option maxRecDepth 100000 in
theorem vX11_init {D : xD} : yC D yX11_init cX11_init 1 4 164 11339 uX11_init := ymet (own := RX11) ycg_ok xcg_ok (by decide) rfl rfl (by decide +kernel) (List.forall_mem_cons.mpr ⟨yoX11_12, List.forall_mem_cons.mpr ⟨yoX11_19, List.forall_mem_cons.mpr ⟨yoX11_28, List.forall_mem_cons.mpr ⟨yoX11_37, List.forall_mem_cons.mpr ⟨yoX11_46, List.forall_mem_cons.mpr ⟨yoX11_50, List.forall_mem_cons.mpr ⟨yoX11_56, List.forall_mem_cons.mpr ⟨yoX11_60, List.forall_mem_cons.mpr ⟨yoX11_69, List.forall_mem_cons.mpr ⟨yoX11_73, List.forall_mem_cons.mpr ⟨yoX11_79, List.forall_mem_cons.mpr ⟨yoX11_88, List.forall_mem_cons.mpr ⟨yoX11_95, fun _ h => absurd h List.not_mem_nil⟩⟩⟩⟩⟩⟩⟩⟩⟩⟩⟩⟩⟩) (List.forall_mem_cons.mpr ⟨⟨RX8, TX8, 8, rfl, xt1 (List.mem_of_getElem? (i := 30) rfl) rfl, ⟨xt1 (List.mem_of_getElem? (i := 31) rfl) rfl, xinX8⟩, by decide +kernel⟩, List.forall_mem_cons.mpr ⟨⟨RX5, TX5, 10, rfl, xt1 (List.mem_of_getElem? (i := 70) rfl) rfl, ⟨xt1 (List.mem_of_getElem? (i := 71) rfl) rfl, xinX5⟩, by decide +kernel⟩, List.forall_mem_cons.mpr ⟨⟨RX9, TX9, 5, rfl, xt1 (List.mem_of_getElem? (i := 137) rfl) rfl, ⟨xt1 (List.mem_of_getElem? (i := 138) rfl) rfl, xinX9⟩, by decide +kernel⟩, List.forall_mem_cons.mpr ⟨⟨RX4, TX4, 10, rfl, xt1 (List.mem_of_getElem? (i := 164) rfl) rfl, ⟨xt1 (List.mem_of_getElem? (i := 165) rfl) rfl, xinX4⟩, by decide +kernel⟩, List.forall_mem_cons.mpr ⟨⟨RX10, TX10, 7, rfl, xt1 (List.mem_of_getElem? (i := 217) rfl) rfl, ⟨xt1 (List.mem_of_getElem? (i := 218) rfl) rfl, xinX10⟩, by decide +kernel⟩, List.forall_mem_cons.mpr ⟨⟨RX0, TX0, 7, rfl, xt2 (List.mem_of_getElem? (i := 7) rfl) rfl, ⟨xt2 (List.mem_of_getElem? (i := 8) rfl) rfl, xinX0⟩, by decide +kernel⟩, List.forall_mem_cons.mpr ⟨⟨RX2, TX2, 9, rfl, xt2 (List.mem_of_getElem? (i := 40) rfl) rfl, ⟨xt2 (List.mem_of_getElem? (i := 41) rfl) rfl, xinX2⟩, by decide +kernel⟩, List.forall_mem_cons.mpr ⟨⟨RX7, TX7, 12, rfl, xt2 (List.mem_of_getElem? (i := 80) rfl) rfl, ⟨xt2 (List.mem_of_getElem? (i := 81) rfl) rfl, xinX7⟩, by decide +kernel⟩, List.forall_mem_cons.mpr ⟨⟨RX1, TX1, 11, rfl, xt2 (List.mem_of_getElem? (i := 125) rfl) rfl, ⟨xt2 (List.mem_of_getElem? (i := 126) rfl) rfl, xinX1⟩, by decide +kernel⟩, List.forall_mem_cons.mpr ⟨⟨RX3, TX3, 2, rfl, xt2 (List.mem_of_getElem? (i := 169) rfl) rfl, ⟨xt1 (List.mem_of_getElem? (i := 171) rfl) rfl, xinX3⟩, by decide +kernel⟩, fun _ h => absurd h List.not_mem_nil⟩⟩⟩⟩⟩⟩⟩⟩⟩⟩) (List.forall_mem_cons.mpr ⟨yco_N vX8_init ⟨by decide, by decide⟩ (List.mem_of_getElem? (i := 3) rfl) wiX8_init xinX8 wcX8_init rfl (by decide +kernel), List.forall_mem_cons.mpr ⟨yco_I vX5_init ⟨by decide, by decide⟩ (xt1 (List.mem_of_getElem? (i := 72) rfl) rfl) wiX5_init xinX5 wcX5_init rfl (by decide +kernel), List.forall_mem_cons.mpr ⟨yco_I vX9_init ⟨by decide, by decide⟩ (xt1 (List.mem_of_getElem? (i := 139) rfl) rfl) wiX9_init xinX9 wcX9_init rfl (by decide +kernel), List.forall_mem_cons.mpr ⟨yco_I vX4_init ⟨by decide, by decide⟩ (xt1 (List.mem_of_getElem? (i := 166) rfl) rfl) wiX4_init xinX4 wcX4_init rfl (by decide +kernel), List.forall_mem_cons.mpr ⟨yco_I vX10_init ⟨by decide, by decide⟩ (xt1 (List.mem_of_getElem? (i := 219) rfl) rfl) wiX10_init xinX10 wcX10_init rfl (by decide +kernel), List.forall_mem_cons.mpr ⟨yco_I vX0_init ⟨by decide, by decide⟩ (xt2 (List.mem_of_getElem? (i := 9) rfl) rfl) wiX0_init xinX0 wcX0_init rfl (by decide +kernel), List.forall_mem_cons.mpr ⟨yco_I vX2_init ⟨by decide, by decide⟩ (xt2 (List.mem_of_getElem? (i := 42) rfl) rfl) wiX2_init xinX2 wcX2_init rfl (by decide +kernel), List.forall_mem_cons.mpr ⟨yco_I vX7_init ⟨by decide, by decide⟩ (xt2 (List.mem_of_getElem? (i := 82) rfl) rfl) wiX7_init xinX7 wcX7_init rfl (by decide +kernel), List.forall_mem_cons.mpr ⟨yco_I vX1_init ⟨by decide, by decide⟩ (xt2 (List.mem_of_getElem? (i := 127) rfl) rfl) wiX1_init xinX1 wcX1_init rfl (by decide +kernel), List.forall_mem_cons.mpr ⟨yco_N vX3_init ⟨by decide, by decide⟩ (List.mem_of_getElem? (i := 4) rfl) wiX3_init xinX3 wcX3_init rfl (by decide +kernel), fun _ h => absurd h List.not_mem_nil⟩⟩⟩⟩⟩⟩⟩⟩⟩⟩) ⟨(xt1 (List.mem_of_getElem? (i := 27) rfl) rfl), yoi.1, yoi.2⟩ yarr (by decide)
theorem yoX12_7 : yfo RX12 (7, 12, 0, 2) := ⟨RX12, TX12, 83, rfl, by decide, (xt6 (List.mem_of_getElem? (i := 165) rfl) rfl), rfl, rfl, rfl⟩
theorem yoX12_13 : yfo RX12 (13, 12, 1, 2) := ⟨RX12, TX12, 83, rfl, by decide, (xt6 (List.mem_of_getElem? (i := 166) rfl) rfl), rfl, rfl, rfl⟩
theorem yoX12_16 : yfo RX12 (16, 12, 4, 2) := ⟨RX12, TX12, 83, rfl, by decide, (xt6 (List.mem_of_getElem? (i := 169) rfl) rfl), rfl, rfl, rfl⟩
theorem yoX12_19 : yfo RX12 (19, 12, 5, 2) := ⟨RX12, TX12, 83, rfl, by decide, (xt6 (List.mem_of_getElem? (i := 170) rfl) rfl), rfl, rfl, rfl⟩
theorem yoX12_22 : yfo RX12 (22, 12, 6, 2) := ⟨RX12, TX12, 83, rfl, by decide, (xt6 (List.mem_of_getElem? (i := 171) rfl) rfl), rfl, rfl, rfl⟩
theorem yoX12_25 : yfo RX12 (25, 12, 7, 2) := ⟨RX12, TX12, 83, rfl, by decide, (xt6 (List.mem_of_getElem? (i := 172) rfl) rfl), rfl, rfl, rfl⟩
theorem yoX12_28 : yfo RX12 (28, 12, 8, 2) := ⟨RX12, TX12, 83, rfl, by decide, (xt6 (List.mem_of_getElem? (i := 173) rfl) rfl), rfl, rfl, rfl⟩
theorem yoX12_31 : yfo RX12 (31, 12, 9, 2) := ⟨RX12, TX12, 83, rfl, by decide, (xt6 (List.mem_of_getElem? (i := 174) rfl) rfl), rfl, rfl, rfl⟩
theorem yoX12_35 : yfo RX12 (35, 12, 10, 2) := ⟨RX12, TX12, 83, rfl, by decide, (xt6 (List.mem_of_getElem? (i := 175) rfl) rfl), rfl, rfl, rfl⟩
theorem yoX12_38 : yfo RX12 (38, 12, 11, 2) := ⟨RX12, TX12, 83, rfl, by decide, (xt6 (List.mem_of_getElem? (i := 176) rfl) rfl), rfl, rfl, rfl⟩
theorem yoX12_41 : yfo RX12 (41, 12, 12, 2) := ⟨RX12, TX12, 83, rfl, by decide, (xt6 (List.mem_of_getElem? (i := 177) rfl) rfl), rfl, rfl, rfl⟩
theorem yoX12_44 : yfo RX12 (44, 12, 13, 2) := ⟨RX12, TX12, 83, rfl, by decide, (xt6 (List.mem_of_getElem? (i := 178) rfl) rfl), rfl, rfl, rfl⟩
theorem yoX12_47 : yfo RX12 (47, 12, 14, 2) := ⟨RX12, TX12, 83, rfl, by decide, (xt6 (List.mem_of_getElem? (i := 179) rfl) rfl), rfl, rfl, rfl⟩
theorem yoX12_50 : yfo RX12 (50, 12, 15, 2) := ⟨RX12, TX12, 83, rfl, by decide, (xt6 (List.mem_of_getElem? (i := 180) rfl) rfl), rfl, rfl, rfl⟩
theorem yoX12_53 : yfo RX12 (53, 12, 16, 2) := ⟨RX12, TX12, 83, rfl, by decide, (xt6 (List.mem_of_getElem? (i := 181) rfl) rfl), rfl, rfl, rfl⟩
theorem yoX12_56 : yfo RX12 (56, 12, 17, 2) := ⟨RX12, TX12, 83, rfl, by decide, (xt6 (List.mem_of_getElem? (i := 182) rfl) rfl), rfl, rfl, rfl⟩
theorem yoX12_59 : yfo RX12 (59, 12, 29, 0) := ⟨RX12, TX12, 83, rfl, by decide, (xt6 (List.mem_of_getElem? (i := 194) rfl) rfl), rfl, rfl, rfl⟩
theorem yoX12_63 : yfo RX12 (63, 12, 32, 2) := ⟨RX12, TX12, 83, rfl, by decide, (xt6 (List.mem_of_getElem? (i := 197) rfl) rfl), rfl, rfl, rfl⟩
theorem yoX12_66 : yfo RX12 (66, 12, 33, 2) := ⟨RX12, TX12, 83, rfl, by decide, (xt6 (List.mem_of_getElem? (i := 198) rfl) rfl), rfl, rfl, rfl⟩
theorem yoX12_69 : yfo RX12 (69, 12, 34, 2) := ⟨RX12, TX12, 83, rfl, by decide, (xt6 (List.mem_of_getElem? (i := 199) rfl) rfl), rfl, rfl, rfl⟩
theorem yoX12_73 : yfo RX12 (73, 12, 35, 2) := ⟨RX12, TX12, 83, rfl, by decide, (xt6 (List.mem_of_getElem? (i := 200) rfl) rfl), rfl, rfl, rfl⟩
theorem yoX12_76 : yfo RX12 (76, 12, 36, 2) := ⟨RX12, TX12, 83, rfl, by decide, (xt6 (List.mem_of_getElem? (i := 201) rfl) rfl), rfl, rfl, rfl⟩
theorem yoX12_79 : yfo RX12 (79, 12, 37, 2) := ⟨RX12, TX12, 83, rfl, by decide, (xt6 (List.mem_of_getElem? (i := 202) rfl) rfl), rfl, rfl, rfl⟩
theorem yoX12_82 : yfo RX12 (82, 12, 38, 2) := ⟨RX12, TX12, 83, rfl, by decide, (xt6 (List.mem_of_getElem? (i := 203) rfl) rfl), rfl, rfl, rfl⟩
theorem yoX12_85 : yfo RX12 (85, 12, 39, 2) := ⟨RX12, TX12, 83, rfl, by decide, (xt6 (List.mem_of_getElem? (i := 204) rfl) rfl), rfl, rfl, rfl⟩
theorem yoX12_88 : yfo RX12 (88, 12, 40, 2) := ⟨RX12, TX12, 83, rfl, by decide, (xt6 (List.mem_of_getElem? (i := 205) rfl) rfl), rfl, rfl, rfl⟩
theorem yoX12_91 : yfo RX12 (91, 12, 41, 2) := ⟨RX12, TX12, 83, rfl, by decide, (xt6 (List.mem_of_getElem? (i := 206) rfl) rfl), rfl, rfl, rfl⟩
theorem yoX12_94 : yfo RX12 (94, 12, 42, 2) := ⟨RX12, TX12, 83, rfl, by decide, (xt6 (List.mem_of_getElem? (i := 207) rfl) rfl), rfl, rfl, rfl⟩
theorem yoX12_97 : yfo RX12 (97, 12, 43, 2) := ⟨RX12, TX12, 83, rfl, by decide, (xt6 (List.mem_of_getElem? (i := 208) rfl) rfl), rfl, rfl, rfl⟩
theorem yoX12_100 : yfo RX12 (100, 12, 44, 2) := ⟨RX12, TX12, 83, rfl, by decide, (xt6 (List.mem_of_getElem? (i := 209) rfl) rfl), rfl, rfl, rfl⟩
theorem yoX12_103 : yfo RX12 (103, 12, 45, 2) := ⟨RX12, TX12, 83, rfl, by decide, (xt6 (List.mem_of_getElem? (i := 210) rfl) rfl), rfl, rfl, rfl⟩
theorem yoX12_106 : yfo RX12 (106, 12, 46, 2) := ⟨RX12, TX12, 83, rfl, by decide, (xt6 (List.mem_of_getElem? (i := 211) rfl) rfl), rfl, rfl, rfl⟩
theorem yoX12_109 : yfo RX12 (109, 12, 48, 2) := ⟨RX12, TX12, 83, rfl, by decide, (xt6 (List.mem_of_getElem? (i := 213) rfl) rfl), rfl, rfl, rfl⟩
theorem yoX12_112 : yfo RX12 (112, 12, 49, 2) := ⟨RX12, TX12, 83, rfl, by decide, (xt6 (List.mem_of_getElem? (i := 214) rfl) rfl), rfl, rfl, rfl⟩
theorem yoX12_115 : yfo RX12 (115, 12, 50, 2) := ⟨RX12, TX12, 83, rfl, by decide, (xt6 (List.mem_of_getElem? (i := 215) rfl) rfl), rfl, rfl, rfl⟩
theorem yoX12_118 : yfo RX12 (118, 12, 51, 2) := ⟨RX12, TX12, 83, rfl, by decide, (xt6 (List.mem_of_getElem? (i := 216) rfl) rfl), rfl, rfl, rfl⟩
theorem yoX12_121 : yfo RX12 (121, 12, 52, 2) := ⟨RX12, TX12, 83, rfl, by decide, (xt6 (List.mem_of_getElem? (i := 217) rfl) rfl), rfl, rfl, rfl⟩
theorem yoX12_124 : yfo RX12 (124, 12, 53, 2) := ⟨RX12, TX12, 83, rfl, by decide, (xt6 (List.mem_of_getElem? (i := 218) rfl) rfl), rfl, rfl, rfl⟩
theorem yoX12_127 : yfo RX12 (127, 12, 54, 2) := ⟨RX12, TX12, 83, rfl, by decide, (xt6 (List.mem_of_getElem? (i := 219) rfl) rfl), rfl, rfl, rfl⟩
theorem yoX12_130 : yfo RX12 (130, 12, 55, 2) := ⟨RX12, TX12, 83, rfl, by decide, (xt6 (List.mem_of_getElem? (i := 220) rfl) rfl), rfl, rfl, rfl⟩
theorem yoX12_133 : yfo RX12 (133, 12, 57, 2) := ⟨RX12, TX12, 83, rfl, by decide, (xt6 (List.mem_of_getElem? (i := 222) rfl) rfl), rfl, rfl, rfl⟩
theorem yoX12_136 : yfo RX12 (136, 12, 59, 2) := ⟨RX12, TX12, 83, rfl, by decide, (xt6 (List.mem_of_getElem? (i := 224) rfl) rfl), rfl, rfl, rfl⟩
theorem yoX12_139 : yfo RX12 (139, 12, 60, 2) := ⟨RX12, TX12, 83, rfl, by decide, (xt6 (List.mem_of_getElem? (i := 225) rfl) rfl), rfl, rfl, rfl⟩
theorem yoX12_142 : yfo RX12 (142, 12, 61, 2) := ⟨RX12, TX12, 83, rfl, by decide, (xt6 (List.mem_of_getElem? (i := 226) rfl) rfl), rfl, rfl, rfl⟩
theorem yoX12_145 : yfo RX12 (145, 12, 62, 2) := ⟨RX12, TX12, 83, rfl, by decide, (xt6 (List.mem_of_getElem? (i := 227) rfl) rfl), rfl, rfl, rfl⟩
theorem yoX12_148 : yfo RX12 (148, 12, 63, 2) := ⟨RX12, TX12, 83, rfl, by decide, (xt6 (List.mem_of_getElem? (i := 228) rfl) rfl), rfl, rfl, rfl⟩
theorem yoX12_151 : yfo RX12 (151, 12, 64, 2) := ⟨RX12, TX12, 83, rfl, by decide, (xt6 (List.mem_of_getElem? (i := 229) rfl) rfl), rfl, rfl, rfl⟩
theorem yoX12_154 : yfo RX12 (154, 12, 65, 2) := ⟨RX12, TX12, 83, rfl, by decide, (xt6 (List.mem_of_getElem? (i := 230) rfl) rfl), rfl, rfl, rfl⟩
theorem yoX12_157 : yfo RX12 (157, 12, 66, 2) := ⟨RX12, TX12, 83, rfl, by decide, (xt6 (List.mem_of_getElem? (i := 231) rfl) rfl), rfl, rfl, rfl⟩
theorem yoX12_160 : yfo RX12 (160, 12, 67, 2) := ⟨RX12, TX12, 83, rfl, by decide, (xt6 (List.mem_of_getElem? (i := 232) rfl) rfl), rfl, rfl, rfl⟩
theorem yoX12_163 : yfo RX12 (163, 12, 68, 2) := ⟨RX12, TX12, 83, rfl, by decide, (xt6 (List.mem_of_getElem? (i := 233) rfl) rfl), rfl, rfl, rfl⟩
theorem yoX12_166 : yfo RX12 (166, 12, 69, 2) := ⟨RX12, TX12, 83, rfl, by decide, (xt6 (List.mem_of_getElem? (i := 234) rfl) rfl), rfl, rfl, rfl⟩
theorem yoX12_169 : yfo RX12 (169, 12, 71, 0) := ⟨RX12, TX12, 83, rfl, by decide, (xt6 (List.mem_of_getElem? (i := 236) rfl) rfl), rfl, rfl, rfl⟩
theorem yoX12_172 : yfo RX12 (172, 12, 75, 2) := ⟨RX12, TX12, 83, rfl, by decide, (xt7 (List.mem_of_getElem? (i := 0) rfl) rfl), rfl, rfl, rfl⟩
theorem yoX12_175 : yfo RX12 (175, 12, 76, 2) := ⟨RX12, TX12, 83, rfl, by decide, (xt7 (List.mem_of_getElem? (i := 1) rfl) rfl), rfl, rfl, rfl⟩
theorem yoX12_178 : yfo RX12 (178, 12, 77, 2) := ⟨RX12, TX12, 83, rfl, by decide, (xt7 (List.mem_of_getElem? (i := 2) rfl) rfl), rfl, rfl, rfl⟩
theorem yoX12_181 : yfo RX12 (181, 12, 78, 2) := ⟨RX12, TX12, 83, rfl, by decide, (xt7 (List.mem_of_getElem? (i := 3) rfl) rfl), rfl, rfl, rfl⟩
theorem yoX12_184 : yfo RX12 (184, 12, 79, 2) := ⟨RX12, TX12, 83, rfl, by decide, (xt7 (List.mem_of_getElem? (i := 4) rfl) rfl), rfl, rfl, rfl⟩
theorem yoX12_187 : yfo RX12 (187, 12, 80, 2) := ⟨RX12, TX12, 83, rfl, by decide, (xt7 (List.mem_of_getElem? (i := 5) rfl) rfl), rfl, rfl, rfl⟩
theorem yoX12_190 : yfo RX12 (190, 12, 81, 2) := ⟨RX12, TX12, 83, rfl, by decide, (xt7 (List.mem_of_getElem? (i := 6) rfl) rfl), rfl, rfl, rfl⟩
def tX12_init : xT := [(0, none, [(0, .aload_n 0, .inl 0), (1, .invokespecial 1, .inl 0), (4, .aload_n 0, .inl 0), (5, .sipush 512, .inr (.inl 512)), (8, .newarray .int, .inl 0), (10, .putfield 7, .inl 0), (13, .aload_n 0, .inl 0), (14, .sipush 512, .inr (.inl 512)), (17, .newarray .int, .inl 0), (19, .putfield 13, .inl 0), (22, .aload_n 0, .inl 0), (23, .bipush 8, .inr (.inl 8)), (25, .newarray .int, .inl 0), (27, .putfield 16, .inl 0), (30, .aload_n 0, .inl 0), (31, .bipush 8, .inr (.inl 8)), (33, .newarray .int, .inl 0), (35, .putfield 19, .inl 0), (38, .aload_n 0, .inl 0), (39, .bipush 8, .inr (.inl 8)), (41, .newarray .int, .inl 0), (43, .putfield 22, .inl 0), (46, .aload_n 0, .inl 0), (47, .bipush 8, .inr (.inl 8)), (49, .newarray .int, .inl 0), (51, .putfield 25, .inl 0), (54, .aload_n 0, .inl 0), (55, .bipush 7, .inr (.inl 7)), (57, .newarray .int, .inl 0), (59, .dup, .inl 0), (60, .iconst 0, .inr (.inl 0)), (61, .iconst 1, .inr (.inl 1)), (62, .iastore, .inl 0), (63, .dup, .inl 0), (64, .iconst 1, .inr (.inl 1)), (65, .iconst 1, .inr (.inl 1)), (66, .iastore, .inl 0), (67, .dup, .inl 0), (68, .iconst 2, .inr (.inl 2)), (69, .iconst 1, .inr (.inl 1)), (70, .iastore, .inl 0), (71, .dup, .inl 0), (72, .iconst 3, .inr (.inl 3)), (73, .iconst 1, .inr (.inl 1)), (74, .iastore, .inl 0), (75, .dup, .inl 0), (76, .iconst 4, .inr (.inl 4)), (77, .iconst 1, .inr (.inl 1)), (78, .iastore, .inl 0), (79, .dup, .inl 0), (80, .iconst 5, .inr (.inl 5)), (81, .iconst 1, .inr (.inl 1)), (82, .iastore, .inl 0), (83, .dup, .inl 0), (84, .bipush 6, .inr (.inl 6)), (86, .iconst 0, .inr (.inl 0)), (87, .iastore, .inl 0), (88, .putfield 28, .inl 0), (91, .aload_n 0, .inl 0), (92, .bipush 9, .inr (.inl 9)), (94, .newarray .boolean, .inl 0), (96, .putfield 31, .inl 0), (99, .aload_n 0, .inl 0), (100, .sipush 800, .inr (.inl 800)), (103, .newarray .int, .inl 0), (105, .putfield 35, .inl 0), (108, .aload_n 0, .inl 0), (109, .bipush 9, .inr (.inl 9)), (111, .newarray .int, .inl 0), (113, .putfield 38, .inl 0), (116, .aload_n 0, .inl 0), (117, .bipush 9, .inr (.inl 9)), (119, .newarray .int, .inl 0), (121, .putfield 41, .inl 0), (124, .aload_n 0, .inl 0), (125, .bipush 8, .inr (.inl 8)), (127, .newarray .int, .inl 0), (129, .putfield 44, .inl 0), (132, .aload_n 0, .inl 0), (133, .bipush 8, .inr (.inl 8)), (135, .newarray .int, .inl 0), (137, .putfield 47, .inl 0), (140, .aload_n 0, .inl 0), (141, .bipush 8, .inr (.inl 8)), (143, .newarray .int, .inl 0), (145, .putfield 50, .inl 0), (148, .aload_n 0, .inl 0), (149, .bipush 8, .inr (.inl 8)), (151, .newarray .int, .inl 0), (153, .putfield 53, .inl 0), (156, .aload_n 0, .inl 0), (157, .bipush 6, .inr (.inl 6)), (159, .newarray .int, .inl 0), (161, .putfield 56, .inl 0), (164, .aload_n 0, .inl 0), (165, .iconst (-1), .inr (.inl (-1))), (166, .putfield 59, .inl 0), (169, .aload_n 0, .inl 0), (170, .bipush 54, .inr (.inl 54)), (172, .newarray .int, .inl 0), (174, .putfield 63, .inl 0), (177, .aload_n 0, .inl 0), (178, .sipush 512, .inr (.inl 512)), (181, .newarray .int, .inl 0), (183, .putfield 66, .inl 0), (186, .aload_n 0, .inl 0), (187, .sipush 512, .inr (.inl 512)), (190, .newarray .long, .inl 0), (192, .putfield 69, .inl 0), (195, .aload_n 0, .inl 0), (196, .sipush 512, .inr (.inl 512)), (199, .newarray .int, .inl 0), (201, .putfield 73, .inl 0), (204, .aload_n 0, .inl 0), (205, .sipush 512, .inr (.inl 512)), (208, .newarray .int, .inl 0), (210, .putfield 76, .inl 0), (213, .aload_n 0, .inl 0), (214, .sipush 512, .inr (.inl 512)), (217, .newarray .int, .inl 0), (219, .putfield 79, .inl 0), (222, .aload_n 0, .inl 0), (223, .sipush 512, .inr (.inl 512)), (226, .newarray .int, .inl 0), (228, .putfield 82, .inl 0), (231, .aload_n 0, .inl 0), (232, .sipush 512, .inr (.inl 512)), (235, .newarray .int, .inl 0), (237, .putfield 85, .inl 0), (240, .aload_n 0, .inl 0), (241, .sipush 512, .inr (.inl 512)), (244, .newarray .boolean, .inl 0), (246, .putfield 88, .inl 0), (249, .aload_n 0, .inl 0), (250, .sipush 512, .inr (.inl 512)), (253, .newarray .boolean, .inl 0), (255, .putfield 91, .inl 0), (258, .aload_n 0, .inl 0), (259, .bipush 9, .inr (.inl 9)), (261, .newarray .int, .inl 0), (263, .putfield 94, .inl 0), (266, .aload_n 0, .inl 0), (267, .bipush 9, .inr (.inl 9)), (269, .newarray .int, .inl 0), (271, .putfield 97, .inl 0), (274, .aload_n 0, .inl 0), (275, .bipush 20, .inr (.inl 20)), (277, .newarray .int, .inl 0), (279, .putfield 100, .inl 0), (282, .aload_n 0, .inl 0), (283, .bipush 9, .inr (.inl 9)), (285, .newarray .int, .inl 0), (287, .putfield 103, .inl 0), (290, .aload_n 0, .inl 0), (291, .bipush 9, .inr (.inl 9)), (293, .newarray .int, .inl 0), (295, .putfield 106, .inl 0), (298, .aload_n 0, .inl 0), (299, .sipush 512, .inr (.inl 512)), (302, .newarray .int, .inl 0), (304, .putfield 109, .inl 0), (307, .aload_n 0, .inl 0), (308, .sipush 512, .inr (.inl 512)), (311, .newarray .long, .inl 0), (313, .putfield 112, .inl 0), (316, .aload_n 0, .inl 0), (317, .sipush 512, .inr (.inl 512)), (320, .newarray .int, .inl 0), (322, .putfield 115, .inl 0), (325, .aload_n 0, .inl 0), (326, .sipush 4913, .inr (.inl 4913)), (329, .newarray .int, .inl 0), (331, .putfield 118, .inl 0), (334, .aload_n 0, .inl 0), (335, .sipush 4913, .inr (.inl 4913)), (338, .newarray .int, .inl 0), (340, .putfield 121, .inl 0), (343, .aload_n 0, .inl 0), (344, .sipush 512, .inr (.inl 512)), (347, .newarray .int, .inl 0), (349, .putfield 124, .inl 0), (352, .aload_n 0, .inl 0), (353, .sipush 192, .inr (.inl 192)), (356, .newarray .int, .inl 0), (358, .putfield 127, .inl 0), (361, .aload_n 0, .inl 0), (362, .sipush 192, .inr (.inl 192)), (365, .newarray .int, .inl 0), (367, .putfield 130, .inl 0), (370, .aload_n 0, .inl 0), (371, .bipush 9, .inr (.inl 9)), (373, .newarray .int, .inl 0), (375, .putfield 133, .inl 0), (378, .aload_n 0, .inl 0), (379, .bipush 54, .inr (.inl 54)), (381, .newarray .boolean, .inl 0), (383, .putfield 136, .inl 0), (386, .aload_n 0, .inl 0), (387, .bipush 54, .inr (.inl 54)), (389, .newarray .int, .inl 0), (391, .putfield 139, .inl 0), (394, .aload_n 0, .inl 0), (395, .sipush 512, .inr (.inl 512)), (398, .newarray .int, .inl 0), (400, .putfield 142, .inl 0), (403, .aload_n 0, .inl 0), (404, .sipush 512, .inr (.inl 512)), (407, .newarray .long, .inl 0), (409, .putfield 145, .inl 0), (412, .aload_n 0, .inl 0), (413, .sipush 512, .inr (.inl 512)), (416, .newarray .int, .inl 0), (418, .putfield 148, .inl 0), (421, .aload_n 0, .inl 0), (422, .sipush 512, .inr (.inl 512)), (425, .newarray .long, .inl 0), (427, .putfield 151, .inl 0), (430, .aload_n 0, .inl 0), (431, .bipush 54, .inr (.inl 54)), (433, .newarray .int, .inl 0), (435, .putfield 154, .inl 0), (438, .aload_n 0, .inl 0), (439, .bipush 9, .inr (.inl 9)), (441, .newarray .int, .inl 0), (443, .putfield 157, .inl 0), (446, .aload_n 0, .inl 0), (447, .bipush 16, .inr (.inl 16)), (449, .newarray .int, .inl 0), (451, .putfield 160, .inl 0), (454, .aload_n 0, .inl 0), (455, .bipush 16, .inr (.inl 16)), (457, .newarray .int, .inl 0), (459, .putfield 163, .inl 0), (462, .aload_n 0, .inl 0), (463, .bipush 9, .inr (.inl 9)), (465, .newarray .int, .inl 0), (467, .putfield 166, .inl 0), (470, .aload_n 0, .inl 0), (471, .iconst (-1), .inr (.inl (-1))), (472, .putfield 169, .inl 0), (475, .aload_n 0, .inl 0), (476, .sipush 512, .inr (.inl 512)), (479, .newarray .int, .inl 0), (481, .putfield 172, .inl 0), (484, .aload_n 0, .inl 0), (485, .bipush 10, .inr (.inl 10)), (487, .newarray .int, .inl 0), (489, .putfield 175, .inl 0), (492, .aload_n 0, .inl 0), (493, .bipush 54, .inr (.inl 54)), (495, .newarray .int, .inl 0), (497, .putfield 178, .inl 0), (500, .aload_n 0, .inl 0), (501, .bipush 6, .inr (.inl 6)), (503, .newarray .int, .inl 0), (505, .putfield 181, .inl 0), (508, .aload_n 0, .inl 0), (509, .bipush 17, .inr (.inl 17)), (511, .newarray .boolean, .inl 0), (513, .putfield 184, .inl 0), (516, .aload_n 0, .inl 0), (517, .sipush 512, .inr (.inl 512)), (520, .newarray .int, .inl 0), (522, .putfield 187, .inl 0), (525, .aload_n 0, .inl 0), (526, .sipush 512, .inr (.inl 512)), (529, .newarray .int, .inl 0), (531, .putfield 190, .inl 0), (534, .iconst 0, .inr (.inl 0)), (535, .istore_n 1, .inl 0)]),
  (536, none, [(536, .iload_n 1, .inl 0), (537, .sipush 512, .inr (.inl 512)), (540, .if_icmp .ge 16, .inl 556), (543, .aload_n 0, .inl 0), (544, .getfield 7, .inl 0), (547, .iload_n 1, .inl 0), (548, .iconst (-1), .inr (.inl (-1))), (549, .iastore, .inl 0), (550, .iinc 1 1, .inr (.inl 1)), (553, .goto (-17), .inl 536)]),
  (556, none, [(556, .return_, .inl 0)])]
def uX12_init : yF := yfn [(7, 12, 0, 2), (13, 12, 1, 2), (16, 12, 4, 2), (19, 12, 5, 2), (22, 12, 6, 2), (25, 12, 7, 2), (28, 12, 8, 2), (31, 12, 9, 2), (35, 12, 10, 2), (38, 12, 11, 2), (41, 12, 12, 2), (44, 12, 13, 2), (47, 12, 14, 2), (50, 12, 15, 2), (53, 12, 16, 2), (56, 12, 17, 2), (59, 12, 29, 0), (63, 12, 32, 2), (66, 12, 33, 2), (69, 12, 34, 2), (73, 12, 35, 2), (76, 12, 36, 2), (79, 12, 37, 2), (82, 12, 38, 2), (85, 12, 39, 2), (88, 12, 40, 2), (91, 12, 41, 2), (94, 12, 42, 2), (97, 12, 43, 2), (100, 12, 44, 2), (103, 12, 45, 2), (106, 12, 46, 2), (109, 12, 48, 2), (112, 12, 49, 2), (115, 12, 50, 2), (118, 12, 51, 2), (121, 12, 52, 2), (124, 12, 53, 2), (127, 12, 54, 2), (130, 12, 55, 2), (133, 12, 57, 2), (136, 12, 59, 2), (139, 12, 60, 2), (142, 12, 61, 2), (145, 12, 62, 2), (148, 12, 63, 2), (151, 12, 64, 2), (154, 12, 65, 2), (157, 12, 66, 2), (160, 12, 67, 2), (163, 12, 68, 2), (166, 12, 69, 2), (169, 12, 71, 0), (172, 12, 75, 2), (175, 12, 76, 2), (178, 12, 77, 2), (181, 12, 78, 2), (184, 12, 79, 2), (187, 12, 80, 2), (190, 12, 81, 2)] [] [] 1 tX12_init 5396 2 58 22796
theorem wcX12_init : Cond.code yX12_init cX12_init 2 none ∈ xTB := (xt6 (List.mem_of_getElem? (i := 163) rfl) rfl)
theorem wiX12_init : Cond.instanceMethod yX12_init ∈ xTB := (xt6 (List.mem_of_getElem? (i := 162) rfl) rfl)
set_option maxRecDepth 100000 in
theorem vX12_init {D : xD} : yC D yX12_init cX12_init 2 1 58 22796 uX12_init := ymet (own := RX12) ycg_ok xcg_ok (by decide) rfl rfl (by decide +kernel) (List.forall_mem_cons.mpr ⟨yoX12_7, List.forall_mem_cons.mpr ⟨yoX12_13, List.forall_mem_cons.mpr ⟨yoX12_16, List.forall_mem_cons.mpr ⟨yoX12_19, List.forall_mem_cons.mpr ⟨yoX12_22, List.forall_mem_cons.mpr ⟨yoX12_25, List.forall_mem_cons.mpr ⟨yoX12_28, List.forall_mem_cons.mpr ⟨yoX12_31, List.forall_mem_cons.mpr ⟨yoX12_35, List.forall_mem_cons.mpr ⟨yoX12_38, List.forall_mem_cons.mpr ⟨yoX12_41, List.forall_mem_cons.mpr ⟨yoX12_44, List.forall_mem_cons.mpr ⟨yoX12_47, List.forall_mem_cons.mpr ⟨yoX12_50, List.forall_mem_cons.mpr ⟨yoX12_53, List.forall_mem_cons.mpr ⟨yoX12_56, List.forall_mem_cons.mpr ⟨yoX12_59, List.forall_mem_cons.mpr ⟨yoX12_63, List.forall_mem_cons.mpr ⟨yoX12_66, List.forall_mem_cons.mpr ⟨yoX12_69, List.forall_mem_cons.mpr ⟨yoX12_73, List.forall_mem_cons.mpr ⟨yoX12_76, List.forall_mem_cons.mpr ⟨yoX12_79, List.forall_mem_cons.mpr ⟨yoX12_82, List.forall_mem_cons.mpr ⟨yoX12_85, List.forall_mem_cons.mpr ⟨yoX12_88, List.forall_mem_cons.mpr ⟨yoX12_91, List.forall_mem_cons.mpr ⟨yoX12_94, List.forall_mem_cons.mpr ⟨yoX12_97, List.forall_mem_cons.mpr ⟨yoX12_100, List.forall_mem_cons.mpr ⟨yoX12_103, List.forall_mem_cons.mpr ⟨yoX12_106, List.forall_mem_cons.mpr ⟨yoX12_109, List.forall_mem_cons.mpr ⟨yoX12_112, List.forall_mem_cons.mpr ⟨yoX12_115, List.forall_mem_cons.mpr ⟨yoX12_118, List.forall_mem_cons.mpr ⟨yoX12_121, List.forall_mem_cons.mpr ⟨yoX12_124, List.forall_mem_cons.mpr ⟨yoX12_127, List.forall_mem_cons.mpr ⟨yoX12_130, List.forall_mem_cons.mpr ⟨yoX12_133, List.forall_mem_cons.mpr ⟨yoX12_136, List.forall_mem_cons.mpr ⟨yoX12_139, List.forall_mem_cons.mpr ⟨yoX12_142, List.forall_mem_cons.mpr ⟨yoX12_145, List.forall_mem_cons.mpr ⟨yoX12_148, List.forall_mem_cons.mpr ⟨yoX12_151, List.forall_mem_cons.mpr ⟨yoX12_154, List.forall_mem_cons.mpr ⟨yoX12_157, List.forall_mem_cons.mpr ⟨yoX12_160, List.forall_mem_cons.mpr ⟨yoX12_163, List.forall_mem_cons.mpr ⟨yoX12_166, List.forall_mem_cons.mpr ⟨yoX12_169, List.forall_mem_cons.mpr ⟨yoX12_172, List.forall_mem_cons.mpr ⟨yoX12_175, List.forall_mem_cons.mpr ⟨yoX12_178, List.forall_mem_cons.mpr ⟨yoX12_181, List.forall_mem_cons.mpr ⟨yoX12_184, List.forall_mem_cons.mpr ⟨yoX12_187, List.forall_mem_cons.mpr ⟨yoX12_190, fun _ h => absurd h List.not_mem_nil⟩⟩⟩⟩⟩⟩⟩⟩⟩⟩⟩⟩⟩⟩⟩⟩⟩⟩⟩⟩⟩⟩⟩⟩⟩⟩⟩⟩⟩⟩⟩⟩⟩⟩⟩⟩⟩⟩⟩⟩⟩⟩⟩⟩⟩⟩⟩⟩⟩⟩⟩⟩⟩⟩⟩⟩⟩⟩⟩⟩) (fun _ h => absurd h List.not_mem_nil) (fun _ h => absurd h List.not_mem_nil) ⟨(xt6 (List.mem_of_getElem? (i := 164) rfl) rfl), yoi.1, yoi.2⟩ yarr (by decide)
def memX : List yK := [(0, 11, [some (.inr (.inr (0, 1))), some (.inr (.inr (0, 3))), some (.inr (.inr (0, 30))), some (.inr (.inr (0, 61))), some (.inr (.inr (0, 66))), some (.inr (.inr (0, 93))), some (.inr (.inr (0, 120))), some (.inr (.inr (0, 127))), some (.inr (.inr (0, 128))), some (.inr (.inr (0, 134))), some (.inr (.inr (0, 140))), some (.inr (.inr (0, 156))), some (.inr (.inr (0, 163)))]),
  (0, 8, [some (.inr (.inr (0, 2))), some (.inl 0), some (.inl 0), some (.inl (-1)), some (.inl 0), some (.inl 0), some (.inl 0), some (.inl 0)]),
  (3, 800, List.replicate 800 (some (.inl 0))),
  (0, 5, [some (.inl 0), some (.inl 0), some (.inl 0), some (.inr (.inr (0, 4))), some (.inr (.inr (0, 5))), some (.inr (.inr (0, 7))), some (.inr (.inr (0, 8))), some (.inr (.inr (0, 9))), some (.inr (.inr (0, 10))), some (.inr (.inr (0, 11)))]),
  (1, 6, [some (.inl 0), some (.inl 0), some (.inl 0), some (.inl 0), some (.inl 0), some (.inl 0)]),
  (0, 6, [some (.inr (.inr (0, 6)))]),
  (2, 8, [some (.inr (.inl 0)), some (.inr (.inl 0)), some (.inr (.inl 0)), some (.inr (.inl 0)), some (.inr (.inl 0)), some (.inr (.inl 0)), some (.inr (.inl 0)), some (.inr (.inl 0))]),
  (5, 9, [some (.inr (.inr (0, 12))), some (.inr (.inr (0, 14))), some (.inr (.inr (0, 16))), some (.inr (.inr (0, 18))), some (.inr (.inr (0, 20))), some (.inr (.inr (0, 22))), some (.inr (.inr (0, 24))), some (.inr (.inr (0, 26))), some (.inr (.inr (0, 28)))]),
  (1, 9, [some (.inl 0), some (.inl 0), some (.inl 0), some (.inl 0), some (.inl 0), some (.inl 0), some (.inl 0), some (.inl 0), some (.inl 0)]),
  (1, 8, [some (.inl 0), some (.inl 0), some (.inl 0), some (.inl 0), some (.inl 0), some (.inl 0), some (.inl 0), some (.inl 0)]),
  (1, 8, [some (.inl 0), some (.inl 0), some (.inl 0), some (.inl 0), some (.inl 0), some (.inl 0), some (.inl 0), some (.inl 0)]),
  (1, 8, [some (.inl 0), some (.inl 0), some (.inl 0), some (.inl 0), some (.inl 0), some (.inl 0), some (.inl 0), some (.inl 0)]),
  (0, 6, [some (.inr (.inr (0, 13)))]),
  (2, 8, [some (.inr (.inl 0)), some (.inr (.inl 0)), some (.inr (.inl 0)), some (.inr (.inl 0)), some (.inr (.inl 0)), some (.inr (.inl 0)), some (.inr (.inl 0)), some (.inr (.inl 0))]),
  (0, 6, [some (.inr (.inr (0, 15)))]),
  (2, 8, [some (.inr (.inl 0)), some (.inr (.inl 0)), some (.inr (.inl 0)), some (.inr (.inl 0)), some (.inr (.inl 0)), some (.inr (.inl 0)), some (.inr (.inl 0)), some (.inr (.inl 0))]),
  (0, 6, [some (.inr (.inr (0, 17)))]),
  (2, 8, [some (.inr (.inl 0)), some (.inr (.inl 0)), some (.inr (.inl 0)), some (.inr (.inl 0)), some (.inr (.inl 0)), some (.inr (.inl 0)), some (.inr (.inl 0)), some (.inr (.inl 0))]),
  (0, 6, [some (.inr (.inr (0, 19)))]),
  (2, 8, [some (.inr (.inl 0)), some (.inr (.inl 0)), some (.inr (.inl 0)), some (.inr (.inl 0)), some (.inr (.inl 0)), some (.inr (.inl 0)), some (.inr (.inl 0)), some (.inr (.inl 0))]),
  (0, 6, [some (.inr (.inr (0, 21)))]),
  (2, 8, [some (.inr (.inl 0)), some (.inr (.inl 0)), some (.inr (.inl 0)), some (.inr (.inl 0)), some (.inr (.inl 0)), some (.inr (.inl 0)), some (.inr (.inl 0)), some (.inr (.inl 0))]),
  (0, 6, [some (.inr (.inr (0, 23)))]),
  (2, 8, [some (.inr (.inl 0)), some (.inr (.inl 0)), some (.inr (.inl 0)), some (.inr (.inl 0)), some (.inr (.inl 0)), some (.inr (.inl 0)), some (.inr (.inl 0)), some (.inr (.inl 0))]),
  (0, 6, [some (.inr (.inr (0, 25)))]),
  (2, 8, [some (.inr (.inl 0)), some (.inr (.inl 0)), some (.inr (.inl 0)), some (.inr (.inl 0)), some (.inr (.inl 0)), some (.inr (.inl 0)), some (.inr (.inl 0)), some (.inr (.inl 0))]),
  (0, 6, [some (.inr (.inr (0, 27)))]),
  (2, 8, [some (.inr (.inl 0)), some (.inr (.inl 0)), some (.inr (.inl 0)), some (.inr (.inl 0)), some (.inr (.inl 0)), some (.inr (.inl 0)), some (.inr (.inl 0)), some (.inr (.inl 0))]),
  (0, 6, [some (.inr (.inr (0, 29)))]),
  (2, 8, [some (.inr (.inl 0)), some (.inr (.inl 0)), some (.inr (.inl 0)), some (.inr (.inl 0)), some (.inr (.inl 0)), some (.inr (.inl 0)), some (.inr (.inl 0)), some (.inr (.inl 0))]),
  (0, 9, [some (.inr (.inr (0, 31))), some (.inr (.inr (0, 1))), some (.inr (.inr (0, 58))), some (.inr (.inr (0, 60))), some (.inl 0)]),
  (0, 5, [some (.inl 0), some (.inl 0), some (.inl 0), some (.inr (.inr (0, 32))), some (.inr (.inr (0, 33))), some (.inr (.inr (0, 35))), some (.inr (.inr (0, 36))), some (.inr (.inr (0, 37))), some (.inr (.inr (0, 38))), some (.inr (.inr (0, 39)))]),
  (1, 6, [some (.inl 0), some (.inl 0), some (.inl 0), some (.inl 0), some (.inl 0), some (.inl 0)]),
  (0, 6, [some (.inr (.inr (0, 34)))]),
  (2, 8, [some (.inr (.inl 0)), some (.inr (.inl 0)), some (.inr (.inl 0)), some (.inr (.inl 0)), some (.inr (.inl 0)), some (.inr (.inl 0)), some (.inr (.inl 0)), some (.inr (.inl 0))]),
  (5, 9, [some (.inr (.inr (0, 40))), some (.inr (.inr (0, 42))), some (.inr (.inr (0, 44))), some (.inr (.inr (0, 46))), some (.inr (.inr (0, 48))), some (.inr (.inr (0, 50))), some (.inr (.inr (0, 52))), some (.inr (.inr (0, 54))), some (.inr (.inr (0, 56)))]),
  (1, 9, [some (.inl 0), some (.inl 0), some (.inl 0), some (.inl 0), some (.inl 0), some (.inl 0), some (.inl 0), some (.inl 0), some (.inl 0)]),
  (1, 8, [some (.inl 0), some (.inl 0), some (.inl 0), some (.inl 0), some (.inl 0), some (.inl 0), some (.inl 0), some (.inl 0)]),
  (1, 8, [some (.inl 0), some (.inl 0), some (.inl 0), some (.inl 0), some (.inl 0), some (.inl 0), some (.inl 0), some (.inl 0)]),
  (1, 8, [some (.inl 0), some (.inl 0), some (.inl 0), some (.inl 0), some (.inl 0), some (.inl 0), some (.inl 0), some (.inl 0)]),
  (0, 6, [some (.inr (.inr (0, 41)))]),
  (2, 8, [some (.inr (.inl 0)), some (.inr (.inl 0)), some (.inr (.inl 0)), some (.inr (.inl 0)), some (.inr (.inl 0)), some (.inr (.inl 0)), some (.inr (.inl 0)), some (.inr (.inl 0))]),
  (0, 6, [some (.inr (.inr (0, 43)))]),
  (2, 8, [some (.inr (.inl 0)), some (.inr (.inl 0)), some (.inr (.inl 0)), some (.inr (.inl 0)), some (.inr (.inl 0)), some (.inr (.inl 0)), some (.inr (.inl 0)), some (.inr (.inl 0))]),
  (0, 6, [some (.inr (.inr (0, 45)))]),
  (2, 8, [some (.inr (.inl 0)), some (.inr (.inl 0)), some (.inr (.inl 0)), some (.inr (.inl 0)), some (.inr (.inl 0)), some (.inr (.inl 0)), some (.inr (.inl 0)), some (.inr (.inl 0))]),
  (0, 6, [some (.inr (.inr (0, 47)))]),
  (2, 8, [some (.inr (.inl 0)), some (.inr (.inl 0)), some (.inr (.inl 0)), some (.inr (.inl 0)), some (.inr (.inl 0)), some (.inr (.inl 0)), some (.inr (.inl 0)), some (.inr (.inl 0))]),
  (0, 6, [some (.inr (.inr (0, 49)))]),
  (2, 8, [some (.inr (.inl 0)), some (.inr (.inl 0)), some (.inr (.inl 0)), some (.inr (.inl 0)), some (.inr (.inl 0)), some (.inr (.inl 0)), some (.inr (.inl 0)), some (.inr (.inl 0))]),
  (0, 6, [some (.inr (.inr (0, 51)))]),
  (2, 8, [some (.inr (.inl 0)), some (.inr (.inl 0)), some (.inr (.inl 0)), some (.inr (.inl 0)), some (.inr (.inl 0)), some (.inr (.inl 0)), some (.inr (.inl 0)), some (.inr (.inl 0))]),
  (0, 6, [some (.inr (.inr (0, 53)))]),
  (2, 8, [some (.inr (.inl 0)), some (.inr (.inl 0)), some (.inr (.inl 0)), some (.inr (.inl 0)), some (.inr (.inl 0)), some (.inr (.inl 0)), some (.inr (.inl 0)), some (.inr (.inl 0))]),
  (0, 6, [some (.inr (.inr (0, 55)))]),
  (2, 8, [some (.inr (.inl 0)), some (.inr (.inl 0)), some (.inr (.inl 0)), some (.inr (.inl 0)), some (.inr (.inl 0)), some (.inr (.inl 0)), some (.inr (.inl 0)), some (.inr (.inl 0))]),
  (0, 6, [some (.inr (.inr (0, 57)))]),
  (2, 8, [some (.inr (.inl 0)), some (.inr (.inl 0)), some (.inr (.inl 0)), some (.inr (.inl 0)), some (.inr (.inl 0)), some (.inr (.inl 0)), some (.inr (.inl 0)), some (.inr (.inl 0))]),
  (0, 6, [some (.inr (.inr (0, 59)))]),
  (2, 8, [some (.inr (.inl 0)), some (.inr (.inl 0)), some (.inr (.inl 0)), some (.inr (.inl 0)), some (.inr (.inl 0)), some (.inr (.inl 0)), some (.inr (.inl 0)), some (.inr (.inl 0))]),
  (1, 6, [some (.inl 0), some (.inl 0), some (.inl 0), some (.inl 0), some (.inl 0), some (.inl 0)]),
  (0, 4, [some (.inr (.inr (0, 1))), some (.inr (.inr (0, 3))), some (.inr (.inr (0, 62))), some (.inr (.inr (0, 64))), some (.inr (.inr (0, 65))), some (.inl 0), some (.inl (-1)), some (.inl 0), some (.inl 0), some (.inl (-1))]),
  (0, 3, [some (.inr (.inr (0, 63))), some (.inl 0)]),
  (1, 9, [some (.inl 0), some (.inl 0), some (.inl 0), some (.inl 0), some (.inl 0), some (.inl 0), some (.inl 0), some (.inl 0), some (.inl 0)]),
  (1, 16, [some (.inl 0), some (.inl 0), some (.inl 0), some (.inl 0), some (.inl 0), some (.inl 0), some (.inl 0), some (.inl 0), some (.inl 0), some (.inl 0), some (.inl 0), some (.inl 0), some (.inl 0), some (.inl 0), some (.inl 0), some (.inl 0)]),
  (1, 16, [some (.inl 0), some (.inl 0), some (.inl 0), some (.inl 0), some (.inl 0), some (.inl 0), some (.inl 0), some (.inl 0), some (.inl 0), some (.inl 0), some (.inl 0), some (.inl 0), some (.inl 0), some (.inl 0), some (.inl 0), some (.inl 0)]),
  (0, 10, [some (.inr (.inr (0, 3))), some (.inr (.inr (0, 67))), some (.inr (.inr (0, 68))), some (.inr (.inr (0, 70))), some (.inr (.inr (0, 72))), some (.inr (.inr (0, 73))), some (.inr (.inr (0, 74)))]),
  (5, 9, [some (.inr (.inr (0, 75))), some (.inr (.inr (0, 77))), some (.inr (.inr (0, 79))), some (.inr (.inr (0, 81))), some (.inr (.inr (0, 83))), some (.inr (.inr (0, 85))), some (.inr (.inr (0, 87))), some (.inr (.inr (0, 89))), some (.inr (.inr (0, 91)))]),
  (0, 6, [some (.inr (.inr (0, 69)))]),
  (2, 8, [some (.inr (.inl 0)), some (.inr (.inl 0)), some (.inr (.inl 0)), some (.inr (.inl 0)), some (.inr (.inl 0)), some (.inr (.inl 0)), some (.inr (.inl 0)), some (.inr (.inl 0))]),
  (0, 6, [some (.inr (.inr (0, 71)))]),
  (2, 8, [some (.inr (.inl 0)), some (.inr (.inl 0)), some (.inr (.inl 0)), some (.inr (.inl 0)), some (.inr (.inl 0)), some (.inr (.inl 0)), some (.inr (.inl 0)), some (.inr (.inl 0))]),
  (2, 512, List.replicate 512 (some (.inr (.inl 0)))),
  (2, 9, [some (.inr (.inl 0)), some (.inr (.inl 0)), some (.inr (.inl 0)), some (.inr (.inl 0)), some (.inr (.inl 0)), some (.inr (.inl 0)), some (.inr (.inl 0)), some (.inr (.inl 0)), some (.inr (.inl 0))]),
  (1, 10, [some (.inl 0), some (.inl 0), some (.inl 0), some (.inl 0), some (.inl 0), some (.inl 0), some (.inl 0), some (.inl 0), some (.inl 0), some (.inl 0)]),
  (0, 6, [some (.inr (.inr (0, 76)))]),
  (2, 8, [some (.inr (.inl 0)), some (.inr (.inl 0)), some (.inr (.inl 0)), some (.inr (.inl 0)), some (.inr (.inl 0)), some (.inr (.inl 0)), some (.inr (.inl 0)), some (.inr (.inl 0))]),
  (0, 6, [some (.inr (.inr (0, 78)))]),
  (2, 8, [some (.inr (.inl 0)), some (.inr (.inl 0)), some (.inr (.inl 0)), some (.inr (.inl 0)), some (.inr (.inl 0)), some (.inr (.inl 0)), some (.inr (.inl 0)), some (.inr (.inl 0))]),
  (0, 6, [some (.inr (.inr (0, 80)))]),
  (2, 8, [some (.inr (.inl 0)), some (.inr (.inl 0)), some (.inr (.inl 0)), some (.inr (.inl 0)), some (.inr (.inl 0)), some (.inr (.inl 0)), some (.inr (.inl 0)), some (.inr (.inl 0))]),
  (0, 6, [some (.inr (.inr (0, 82)))]),
  (2, 8, [some (.inr (.inl 0)), some (.inr (.inl 0)), some (.inr (.inl 0)), some (.inr (.inl 0)), some (.inr (.inl 0)), some (.inr (.inl 0)), some (.inr (.inl 0)), some (.inr (.inl 0))]),
  (0, 6, [some (.inr (.inr (0, 84)))]),
  (2, 8, [some (.inr (.inl 0)), some (.inr (.inl 0)), some (.inr (.inl 0)), some (.inr (.inl 0)), some (.inr (.inl 0)), some (.inr (.inl 0)), some (.inr (.inl 0)), some (.inr (.inl 0))]),
  (0, 6, [some (.inr (.inr (0, 86)))]),
  (2, 8, [some (.inr (.inl 0)), some (.inr (.inl 0)), some (.inr (.inl 0)), some (.inr (.inl 0)), some (.inr (.inl 0)), some (.inr (.inl 0)), some (.inr (.inl 0)), some (.inr (.inl 0))]),
  (0, 6, [some (.inr (.inr (0, 88)))]),
  (2, 8, [some (.inr (.inl 0)), some (.inr (.inl 0)), some (.inr (.inl 0)), some (.inr (.inl 0)), some (.inr (.inl 0)), some (.inr (.inl 0)), some (.inr (.inl 0)), some (.inr (.inl 0))]),
  (0, 6, [some (.inr (.inr (0, 90)))]),
  (2, 8, [some (.inr (.inl 0)), some (.inr (.inl 0)), some (.inr (.inl 0)), some (.inr (.inl 0)), some (.inr (.inl 0)), some (.inr (.inl 0)), some (.inr (.inl 0)), some (.inr (.inl 0))]),
  (0, 6, [some (.inr (.inr (0, 92)))]),
  (2, 8, [some (.inr (.inl 0)), some (.inr (.inl 0)), some (.inr (.inl 0)), some (.inr (.inl 0)), some (.inr (.inl 0)), some (.inr (.inl 0)), some (.inr (.inl 0)), some (.inr (.inl 0))]),
  (0, 10, [some (.inr (.inr (0, 3))), some (.inr (.inr (0, 94))), some (.inr (.inr (0, 95))), some (.inr (.inr (0, 97))), some (.inr (.inr (0, 99))), some (.inr (.inr (0, 100))), some (.inr (.inr (0, 101)))]),
  (5, 9, [some (.inr (.inr (0, 102))), some (.inr (.inr (0, 104))), some (.inr (.inr (0, 106))), some (.inr (.inr (0, 108))), some (.inr (.inr (0, 110))), some (.inr (.inr (0, 112))), some (.inr (.inr (0, 114))), some (.inr (.inr (0, 116))), some (.inr (.inr (0, 118)))]),
  (0, 6, [some (.inr (.inr (0, 96)))]),
  (2, 8, [some (.inr (.inl 0)), some (.inr (.inl 0)), some (.inr (.inl 0)), some (.inr (.inl 0)), some (.inr (.inl 0)), some (.inr (.inl 0)), some (.inr (.inl 0)), some (.inr (.inl 0))]),
  (0, 6, [some (.inr (.inr (0, 98)))]),
  (2, 8, [some (.inr (.inl 0)), some (.inr (.inl 0)), some (.inr (.inl 0)), some (.inr (.inl 0)), some (.inr (.inl 0)), some (.inr (.inl 0)), some (.inr (.inl 0)), some (.inr (.inl 0))]),
  (2, 512, List.replicate 512 (some (.inr (.inl 0)))),
  (2, 9, [some (.inr (.inl 0)), some (.inr (.inl 0)), some (.inr (.inl 0)), some (.inr (.inl 0)), some (.inr (.inl 0)), some (.inr (.inl 0)), some (.inr (.inl 0)), some (.inr (.inl 0)), some (.inr (.inl 0))]),
  (1, 10, [some (.inl 0), some (.inl 0), some (.inl 0), some (.inl 0), some (.inl 0), some (.inl 0), some (.inl 0), some (.inl 0), some (.inl 0), some (.inl 0)]),
  (0, 6, [some (.inr (.inr (0, 103)))]),
  (2, 8, [some (.inr (.inl 0)), some (.inr (.inl 0)), some (.inr (.inl 0)), some (.inr (.inl 0)), some (.inr (.inl 0)), some (.inr (.inl 0)), some (.inr (.inl 0)), some (.inr (.inl 0))]),
  (0, 6, [some (.inr (.inr (0, 105)))]),
  (2, 8, [some (.inr (.inl 0)), some (.inr (.inl 0)), some (.inr (.inl 0)), some (.inr (.inl 0)), some (.inr (.inl 0)), some (.inr (.inl 0)), some (.inr (.inl 0)), some (.inr (.inl 0))]),
  (0, 6, [some (.inr (.inr (0, 107)))]),
  (2, 8, [some (.inr (.inl 0)), some (.inr (.inl 0)), some (.inr (.inl 0)), some (.inr (.inl 0)), some (.inr (.inl 0)), some (.inr (.inl 0)), some (.inr (.inl 0)), some (.inr (.inl 0))]),
  (0, 6, [some (.inr (.inr (0, 109)))]),
  (2, 8, [some (.inr (.inl 0)), some (.inr (.inl 0)), some (.inr (.inl 0)), some (.inr (.inl 0)), some (.inr (.inl 0)), some (.inr (.inl 0)), some (.inr (.inl 0)), some (.inr (.inl 0))]),
  (0, 6, [some (.inr (.inr (0, 111)))]),
  (2, 8, [some (.inr (.inl 0)), some (.inr (.inl 0)), some (.inr (.inl 0)), some (.inr (.inl 0)), some (.inr (.inl 0)), some (.inr (.inl 0)), some (.inr (.inl 0)), some (.inr (.inl 0))]),
  (0, 6, [some (.inr (.inr (0, 113)))]),
  (2, 8, [some (.inr (.inl 0)), some (.inr (.inl 0)), some (.inr (.inl 0)), some (.inr (.inl 0)), some (.inr (.inl 0)), some (.inr (.inl 0)), some (.inr (.inl 0)), some (.inr (.inl 0))]),
  (0, 6, [some (.inr (.inr (0, 115)))]),
  (2, 8, [some (.inr (.inl 0)), some (.inr (.inl 0)), some (.inr (.inl 0)), some (.inr (.inl 0)), some (.inr (.inl 0)), some (.inr (.inl 0)), some (.inr (.inl 0)), some (.inr (.inl 0))]),
  (0, 6, [some (.inr (.inr (0, 117)))]),
  (2, 8, [some (.inr (.inl 0)), some (.inr (.inl 0)), some (.inr (.inl 0)), some (.inr (.inl 0)), some (.inr (.inl 0)), some (.inr (.inl 0)), some (.inr (.inl 0)), some (.inr (.inl 0))]),
  (0, 6, [some (.inr (.inr (0, 119)))]),
  (2, 8, [some (.inr (.inl 0)), some (.inr (.inl 0)), some (.inr (.inl 0)), some (.inr (.inl 0)), some (.inr (.inl 0)), some (.inr (.inl 0)), some (.inr (.inl 0)), some (.inr (.inl 0))]),
  (0, 0, [some (.inr (.inr (0, 3))), some (.inr (.inr (0, 121))), some (.inr (.inr (0, 123))), some (.inr (.inr (0, 124))), some (.inr (.inr (0, 125))), some (.inr (.inr (0, 126))), some (.inl 0)]),
  (0, 6, [some (.inr (.inr (0, 122)))]),
  (2, 8, [some (.inr (.inl 0)), some (.inr (.inl 0)), some (.inr (.inl 0)), some (.inr (.inl 0)), some (.inr (.inl 0)), some (.inr (.inl 0)), some (.inr (.inl 0)), some (.inr (.inl 0))]),
  (1, 9, [some (.inl 0), some (.inl 0), some (.inl 0), some (.inl 0), some (.inl 0), some (.inl 0), some (.inl 0), some (.inl 0), some (.inl 0)]),
  (1, 9, [some (.inl 0), some (.inl 0), some (.inl 0), some (.inl 0), some (.inl 0), some (.inl 0), some (.inl 0), some (.inl 0), some (.inl 0)]),
  (1, 512, List.replicate 512 (some (.inl 0))),
  (1, 512, List.replicate 512 (some (.inl 0))),
  (1, 7, [some (.inl 1), some (.inl 1), some (.inl 1), some (.inl 1), some (.inl 1), some (.inl 1), some (.inl 0)]),
  (0, 2, [some (.inr (.inr (0, 129))), some (.inr (.inr (0, 130))), some (.inr (.inr (0, 131))), some (.inr (.inr (0, 132))), some (.inl 0), some (.inr (.inr (0, 133))), some (.inr (.inr (0, 3))), some (.inr (.inr (0, 120))), some (.inr (.inr (0, 127)))]),
  (2, 512, List.replicate 512 (some (.inr (.inl 0)))),
  (1, 512, List.replicate 512 (some (.inl 0))),
  (1, 512, List.replicate 512 (some (.inl 0))),
  (1, 512, List.replicate 512 (some (.inl 0))),
  (1, 18, [some (.inl 0), some (.inl 0), some (.inl 0), some (.inl 0), some (.inl 0), some (.inl 0), some (.inl 0), some (.inl 0), some (.inl 0), some (.inl 0), some (.inl 0), some (.inl 0), some (.inl 0), some (.inl 0), some (.inl 0), some (.inl 0), some (.inl 0), some (.inl 0)]),
  (0, 2, [some (.inr (.inr (0, 135))), some (.inr (.inr (0, 136))), some (.inr (.inr (0, 137))), some (.inr (.inr (0, 138))), some (.inl 0), some (.inr (.inr (0, 139))), some (.inr (.inr (0, 3))), some (.inr (.inr (0, 120))), some (.inr (.inr (0, 127)))]),
  (2, 512, List.replicate 512 (some (.inr (.inl 0)))),
  (1, 512, List.replicate 512 (some (.inl 0))),
  (1, 512, List.replicate 512 (some (.inl 0))),
  (1, 512, List.replicate 512 (some (.inl 0))),
  (1, 18, [some (.inl 0), some (.inl 0), some (.inl 0), some (.inl 0), some (.inl 0), some (.inl 0), some (.inl 0), some (.inl 0), some (.inl 0), some (.inl 0), some (.inl 0), some (.inl 0), some (.inl 0), some (.inl 0), some (.inl 0), some (.inl 0), some (.inl 0), some (.inl 0)]),
  (0, 7, [some (.inr (.inr (0, 3))), some (.inr (.inr (0, 141))), some (.inr (.inr (0, 143))), some (.inr (.inr (0, 145))), some (.inr (.inr (0, 147))), some (.inr (.inr (0, 149))), some (.inr (.inr (0, 150))), some (.inr (.inr (0, 151))), some (.inr (.inr (0, 152))), some (.inr (.inr (0, 153))), some (.inr (.inr (0, 154))), some (.inr (.inr (0, 155)))]),
  (0, 6, [some (.inr (.inr (0, 142)))]),
  (2, 8, [some (.inr (.inl 0)), some (.inr (.inl 0)), some (.inr (.inl 0)), some (.inr (.inl 0)), some (.inr (.inl 0)), some (.inr (.inl 0)), some (.inr (.inl 0)), some (.inr (.inl 0))]),
  (0, 6, [some (.inr (.inr (0, 144)))]),
  (2, 8, [some (.inr (.inl 0)), some (.inr (.inl 0)), some (.inr (.inl 0)), some (.inr (.inl 0)), some (.inr (.inl 0)), some (.inr (.inl 0)), some (.inr (.inl 0)), some (.inr (.inl 0))]),
  (0, 6, [some (.inr (.inr (0, 146)))]),
  (2, 8, [some (.inr (.inl 0)), some (.inr (.inl 0)), some (.inr (.inl 0)), some (.inr (.inl 0)), some (.inr (.inl 0)), some (.inr (.inl 0)), some (.inr (.inl 0)), some (.inr (.inl 0))]),
  (0, 6, [some (.inr (.inr (0, 148)))]),
  (2, 8, [some (.inr (.inl 0)), some (.inr (.inl 0)), some (.inr (.inl 0)), some (.inr (.inl 0)), some (.inr (.inl 0)), some (.inr (.inl 0)), some (.inr (.inl 0)), some (.inr (.inl 0))]),
  (1, 64, List.replicate 64 (some (.inl 0))),
  (1, 64, List.replicate 64 (some (.inl 0))),
  (2, 77, List.replicate 77 (some (.inr (.inl 0)))),
  (2, 77, List.replicate 77 (some (.inr (.inl 0)))),
  (2, 77, List.replicate 77 (some (.inr (.inl 0)))),
  (2, 77, List.replicate 77 (some (.inr (.inl 0)))),
  (2, 77, List.replicate 77 (some (.inr (.inl 0)))),
  (0, 1, [some (.inr (.inr (0, 157))), some (.inr (.inr (0, 158))), some (.inr (.inr (0, 159))), some (.inr (.inr (0, 160))), some (.inr (.inr (0, 161))), some (.inr (.inr (0, 162))), some (.inl 0), some (.inl 0), some (.inr (.inr (0, 3))), some (.inr (.inr (0, 66))), some (.inr (.inr (0, 140)))]),
  (1, 512, List.replicate 512 (some (.inl 0))),
  (1, 512, List.replicate 512 (some (.inl 0))),
  (1, 512, List.replicate 512 (some (.inl 0))),
  (1, 512, List.replicate 512 (some (.inl 0))),
  (1, 512, List.replicate 512 (some (.inl 0))),
  (2, 512, List.replicate 512 (some (.inr (.inl 0)))),
  (0, 3, [some (.inr (.inr (0, 164))), some (.inl 0)]),
  (1, 9, [some (.inl 0), some (.inl 0), some (.inl 0), some (.inl 0), some (.inl 0), some (.inl 0), some (.inl 0), some (.inl 0), some (.inl 0)])]
def memM : List yK := [(0, 12, [some (.inr (.inr (0, 1))), some (.inr (.inr (0, 2))), some (.inl 0), some (.inl 0), some (.inr (.inr (0, 3))), some (.inr (.inr (0, 4))), some (.inr (.inr (0, 5))), some (.inr (.inr (0, 6))), some (.inr (.inr (0, 7))), some (.inr (.inr (0, 8))), some (.inr (.inr (0, 9))), some (.inr (.inr (0, 10))), some (.inr (.inr (0, 11))), some (.inr (.inr (0, 12))), some (.inr (.inr (0, 13))), some (.inr (.inr (0, 14))), some (.inr (.inr (0, 15))), some (.inr (.inr (0, 16))), some (.inl 0), some (.inl 0), some (.inl 0), some (.inl 0), some (.inl 0), some (.inl 0), some (.inl 0), some (.inl 0), some (.inl 0), some (.inl 0), some (.inl 0), some (.inl (-1)), some (.inl 0), some (.inl 0), some (.inr (.inr (0, 17))), some (.inr (.inr (0, 18))), some (.inr (.inr (0, 19))), some (.inr (.inr (0, 20))), some (.inr (.inr (0, 21))), some (.inr (.inr (0, 22))), some (.inr (.inr (0, 23))), some (.inr (.inr (0, 24))), some (.inr (.inr (0, 25))), some (.inr (.inr (0, 26))), some (.inr (.inr (0, 27))), some (.inr (.inr (0, 28))), some (.inr (.inr (0, 29))), some (.inr (.inr (0, 30))), some (.inr (.inr (0, 31))), some (.inl 0), some (.inr (.inr (0, 32))), some (.inr (.inr (0, 33))), some (.inr (.inr (0, 34))), some (.inr (.inr (0, 35))), some (.inr (.inr (0, 36))), some (.inr (.inr (0, 37))), some (.inr (.inr (0, 38))), some (.inr (.inr (0, 39))), some (.inl 0), some (.inr (.inr (0, 40))), some (.inl 0), some (.inr (.inr (0, 41))), some (.inr (.inr (0, 42))), some (.inr (.inr (0, 43))), some (.inr (.inr (0, 44))), some (.inr (.inr (0, 45))), some (.inr (.inr (0, 46))), some (.inr (.inr (0, 47))), some (.inr (.inr (0, 48))), some (.inr (.inr (0, 49))), some (.inr (.inr (0, 50))), some (.inr (.inr (0, 51))), some (.inl 0), some (.inl (-1)), some (.inl 0), some (.inl 0), some (.inl 0), some (.inr (.inr (0, 52))), some (.inr (.inr (0, 53))), some (.inr (.inr (0, 54))), some (.inr (.inr (0, 55))), some (.inr (.inr (0, 56))), some (.inr (.inr (0, 57))), some (.inr (.inr (0, 58))), some (.inl 0)]),
  (1, 512, List.replicate 512 (some (.inl (-1)))),
  (1, 512, List.replicate 512 (some (.inl 0))),
  (1, 8, [some (.inl 0), some (.inl 0), some (.inl 0), some (.inl 0), some (.inl 0), some (.inl 0), some (.inl 0), some (.inl 0)]),
  (1, 8, [some (.inl 0), some (.inl 0), some (.inl 0), some (.inl 0), some (.inl 0), some (.inl 0), some (.inl 0), some (.inl 0)]),
  (1, 8, [some (.inl 0), some (.inl 0), some (.inl 0), some (.inl 0), some (.inl 0), some (.inl 0), some (.inl 0), some (.inl 0)]),
  (1, 8, [some (.inl 0), some (.inl 0), some (.inl 0), some (.inl 0), some (.inl 0), some (.inl 0), some (.inl 0), some (.inl 0)]),
  (1, 7, [some (.inl 1), some (.inl 1), some (.inl 1), some (.inl 1), some (.inl 1), some (.inl 1), some (.inl 0)]),
  (4, 9, [some (.inl 0), some (.inl 0), some (.inl 0), some (.inl 0), some (.inl 0), some (.inl 0), some (.inl 0), some (.inl 0), some (.inl 0)]),
  (1, 800, List.replicate 800 (some (.inl 0))),
  (1, 9, [some (.inl 0), some (.inl 0), some (.inl 0), some (.inl 0), some (.inl 0), some (.inl 0), some (.inl 0), some (.inl 0), some (.inl 0)]),
  (1, 9, [some (.inl 0), some (.inl 0), some (.inl 0), some (.inl 0), some (.inl 0), some (.inl 0), some (.inl 0), some (.inl 0), some (.inl 0)]),
  (1, 8, [some (.inl 0), some (.inl 0), some (.inl 0), some (.inl 0), some (.inl 0), some (.inl 0), some (.inl 0), some (.inl 0)]),
  (1, 8, [some (.inl 0), some (.inl 0), some (.inl 0), some (.inl 0), some (.inl 0), some (.inl 0), some (.inl 0), some (.inl 0)]),
  (1, 8, [some (.inl 0), some (.inl 0), some (.inl 0), some (.inl 0), some (.inl 0), some (.inl 0), some (.inl 0), some (.inl 0)]),
  (1, 8, [some (.inl 0), some (.inl 0), some (.inl 0), some (.inl 0), some (.inl 0), some (.inl 0), some (.inl 0), some (.inl 0)]),
  (1, 6, [some (.inl 0), some (.inl 0), some (.inl 0), some (.inl 0), some (.inl 0), some (.inl 0)]),
  (1, 54, List.replicate 54 (some (.inl 0))),
  (1, 512, List.replicate 512 (some (.inl 0))),
  (2, 512, List.replicate 512 (some (.inr (.inl 0)))),
  (1, 512, List.replicate 512 (some (.inl 0))),
  (1, 512, List.replicate 512 (some (.inl 0))),
  (1, 512, List.replicate 512 (some (.inl 0))),
  (1, 512, List.replicate 512 (some (.inl 0))),
  (1, 512, List.replicate 512 (some (.inl 0))),
  (4, 512, List.replicate 512 (some (.inl 0))),
  (4, 512, List.replicate 512 (some (.inl 0))),
  (1, 9, [some (.inl 0), some (.inl 0), some (.inl 0), some (.inl 0), some (.inl 0), some (.inl 0), some (.inl 0), some (.inl 0), some (.inl 0)]),
  (1, 9, [some (.inl 0), some (.inl 0), some (.inl 0), some (.inl 0), some (.inl 0), some (.inl 0), some (.inl 0), some (.inl 0), some (.inl 0)]),
  (1, 20, [some (.inl 0), some (.inl 0), some (.inl 0), some (.inl 0), some (.inl 0), some (.inl 0), some (.inl 0), some (.inl 0), some (.inl 0), some (.inl 0), some (.inl 0), some (.inl 0), some (.inl 0), some (.inl 0), some (.inl 0), some (.inl 0), some (.inl 0), some (.inl 0), some (.inl 0), some (.inl 0)]),
  (1, 9, [some (.inl 0), some (.inl 0), some (.inl 0), some (.inl 0), some (.inl 0), some (.inl 0), some (.inl 0), some (.inl 0), some (.inl 0)]),
  (1, 9, [some (.inl 0), some (.inl 0), some (.inl 0), some (.inl 0), some (.inl 0), some (.inl 0), some (.inl 0), some (.inl 0), some (.inl 0)]),
  (1, 512, List.replicate 512 (some (.inl 0))),
  (2, 512, List.replicate 512 (some (.inr (.inl 0)))),
  (1, 512, List.replicate 512 (some (.inl 0))),
  (1, 4913, List.replicate 4913 (some (.inl 0))),
  (1, 4913, List.replicate 4913 (some (.inl 0))),
  (1, 512, List.replicate 512 (some (.inl 0))),
  (1, 192, List.replicate 192 (some (.inl 0))),
  (1, 192, List.replicate 192 (some (.inl 0))),
  (1, 9, [some (.inl 0), some (.inl 0), some (.inl 0), some (.inl 0), some (.inl 0), some (.inl 0), some (.inl 0), some (.inl 0), some (.inl 0)]),
  (4, 54, List.replicate 54 (some (.inl 0))),
  (1, 54, List.replicate 54 (some (.inl 0))),
  (1, 512, List.replicate 512 (some (.inl 0))),
  (2, 512, List.replicate 512 (some (.inr (.inl 0)))),
  (1, 512, List.replicate 512 (some (.inl 0))),
  (2, 512, List.replicate 512 (some (.inr (.inl 0)))),
  (1, 54, List.replicate 54 (some (.inl 0))),
  (1, 9, [some (.inl 0), some (.inl 0), some (.inl 0), some (.inl 0), some (.inl 0), some (.inl 0), some (.inl 0), some (.inl 0), some (.inl 0)]),
  (1, 16, [some (.inl 0), some (.inl 0), some (.inl 0), some (.inl 0), some (.inl 0), some (.inl 0), some (.inl 0), some (.inl 0), some (.inl 0), some (.inl 0), some (.inl 0), some (.inl 0), some (.inl 0), some (.inl 0), some (.inl 0), some (.inl 0)]),
  (1, 16, [some (.inl 0), some (.inl 0), some (.inl 0), some (.inl 0), some (.inl 0), some (.inl 0), some (.inl 0), some (.inl 0), some (.inl 0), some (.inl 0), some (.inl 0), some (.inl 0), some (.inl 0), some (.inl 0), some (.inl 0), some (.inl 0)]),
  (1, 9, [some (.inl 0), some (.inl 0), some (.inl 0), some (.inl 0), some (.inl 0), some (.inl 0), some (.inl 0), some (.inl 0), some (.inl 0)]),
  (1, 512, List.replicate 512 (some (.inl 0))),
  (1, 10, [some (.inl 0), some (.inl 0), some (.inl 0), some (.inl 0), some (.inl 0), some (.inl 0), some (.inl 0), some (.inl 0), some (.inl 0), some (.inl 0)]),
  (1, 54, List.replicate 54 (some (.inl 0))),
  (1, 6, [some (.inl 0), some (.inl 0), some (.inl 0), some (.inl 0), some (.inl 0), some (.inl 0)]),
  (4, 17, [some (.inl 0), some (.inl 0), some (.inl 0), some (.inl 0), some (.inl 0), some (.inl 0), some (.inl 0), some (.inl 0), some (.inl 0), some (.inl 0), some (.inl 0), some (.inl 0), some (.inl 0), some (.inl 0), some (.inl 0), some (.inl 0), some (.inl 0)]),
  (1, 512, List.replicate 512 (some (.inl 0))),
  (1, 512, List.replicate 512 (some (.inl 0)))]
def yv_eq : xV → xV → Bool
  | .inl a, .inl b => decide (a = b)
  | .inr (.inl a), .inr (.inl b) => decide (a = b)
  | .inr (.inr a), .inr (.inr b) => Nat.beq a.1 b.1 && Nat.beq a.2 b.2
  | _, _ => false
theorem yv_ok {a b : xV} (h : yv_eq a b = true) : a = b := by
  unfold yv_eq at h
  split at h
  · rw [decide_eq_true_eq] at h; rw [h]
  · rw [decide_eq_true_eq] at h; rw [h]
  · rw [Bool.and_eq_true] at h
    have h1 := Nat.eq_of_beq_eq_true h.1
    have h2 := Nat.eq_of_beq_eq_true h.2
    rw [Prod.ext h1 h2]
  · cases h
def yl_eq : List (Option xV) → List (Option xV) → Bool
  | [], [] => true
  | none :: a, none :: b => yl_eq a b
  | some x :: a, some y :: b => yv_eq x y && yl_eq a b
  | _, _ => false
theorem yl_ok : ∀ {a b : List (Option xV)}, yl_eq a b = true → a = b
  | [], [], _ => rfl
  | none :: a, none :: b, h => by rw [yl_ok (a := a) (b := b) h]
  | some x :: a, some y :: b, h => by
    have h := Bool.and_eq_true _ _ ▸ (show (yv_eq x y && yl_eq a b) = true from h)
    rw [yv_ok h.1, yl_ok h.2]
  | [], none :: _, h => by cases h
  | [], some _ :: _, h => by cases h
  | none :: _, [], h => by cases h
  | some _ :: _, [], h => by cases h
  | none :: _, some _ :: _, h => by cases h
  | some _ :: _, none :: _, h => by cases h
def ym_eq : List yK → List yK → Bool
  | [], [] => true
  | (a, b, c) :: l, (a', b', c') :: l' => Nat.beq a a' && Nat.beq b b' && yl_eq c c' && ym_eq l l'
  | _, _ => false
theorem ym_ok : ∀ {a b : List yK}, ym_eq a b = true → a = b
  | [], [], _ => rfl
  | (a, b, c) :: l, (a', b', c') :: l', h => by
    have h : (Nat.beq a a' && Nat.beq b b' && yl_eq c c' && ym_eq l l') = true := h
    simp only [Bool.and_eq_true] at h
    rw [Nat.eq_of_beq_eq_true h.1.1.1, Nat.eq_of_beq_eq_true h.1.1.2, yl_ok h.1.2, ym_ok h.2]
  | [], _ :: _, h => by cases h
  | _ :: _, [], h => by cases h
theorem yr_ok {r : Option (List yK)} {m : List yK} (h : (match r with
    | some m' => ym_eq m' m
    | none => false) = true) : r = some m := by
  split at h
  · rw [ym_ok h]
  · cases h
set_option maxRecDepth 100000 in
theorem memX_ok : uX11_init [.inr (.inr (0, 0))] [(0, 11, ybl 11)] = some memX := yr_ok (by decide +kernel)
set_option maxRecDepth 100000 in
theorem memM_ok : uX12_init [.inr (.inr (0, 0))] [(0, 12, ybl 12)] = some memM := yr_ok (by decide +kernel)
def offT : Nat → List Nat := fun t => (cond (Nat.blt t 31) (cond (Nat.blt t 11) (cond (Nat.blt t 5) (cond (Nat.blt t 2) (cond (Nat.blt t 1) [120] [156]) (cond (Nat.blt t 3) [128, 134] (cond (Nat.blt t 4) [163, 62] [61]))) (cond (Nat.blt t 8) (cond (Nat.blt t 6) [3, 31] (cond (Nat.blt t 7) [5, 12, 14, 16, 18, 20, 22, 24, 26, 28, 33, 40, 42, 44, 46, 48, 50, 52, 54, 56, 58, 75, 77, 79, 81, 83, 85, 87, 89, 91, 68, 70, 102, 104, 106, 108, 110, 112, 114, 116, 118, 95, 97, 121, 141, 143, 145, 147] [140])) (cond (Nat.blt t 9) [1] (cond (Nat.blt t 10) [30] [66, 93])))) (cond (Nat.blt t 25) (cond (Nat.blt t 22) (cond (Nat.blt t 20) [0] (cond (Nat.blt t 21) [123] [124])) (cond (Nat.blt t 23) [125] (cond (Nat.blt t 24) [126] [157]))) (cond (Nat.blt t 28) (cond (Nat.blt t 26) [158] (cond (Nat.blt t 27) [159] [160])) (cond (Nat.blt t 29) [161] (cond (Nat.blt t 30) [162] [129, 135]))))) (cond (Nat.blt t 42) (cond (Nat.blt t 36) (cond (Nat.blt t 33) (cond (Nat.blt t 32) [130, 136] [131, 137]) (cond (Nat.blt t 34) [132, 138] (cond (Nat.blt t 35) [133, 139] [164, 63]))) (cond (Nat.blt t 39) (cond (Nat.blt t 37) [64] (cond (Nat.blt t 38) [65] [4, 32])) (cond (Nat.blt t 40) [7, 35] (cond (Nat.blt t 41) [8, 36] [9, 37])))) (cond (Nat.blt t 48) (cond (Nat.blt t 45) (cond (Nat.blt t 43) [10, 38] (cond (Nat.blt t 44) [11, 39] [6, 13, 15, 17, 19, 21, 23, 25, 27, 29, 34, 41, 43, 45, 47, 49, 51, 53, 55, 57, 59, 76, 78, 80, 82, 84, 86, 88, 90, 92, 69, 71, 103, 105, 107, 109, 111, 113, 115, 117, 119, 96, 98, 122, 142, 144, 146, 148])) (cond (Nat.blt t 46) [149, 150] (cond (Nat.blt t 47) [151, 152, 153, 154, 155] [2]))) (cond (Nat.blt t 51) (cond (Nat.blt t 49) [60] (cond (Nat.blt t 50) [67, 94] [72, 99])) (cond (Nat.blt t 52) [73, 100] (cond (Nat.blt t 53) [74, 101] [127]))))))
def offX (r : xR) : Nat := (offT r.1).getD r.2 0
def offM (r : xR) : Nat := (cond (Nat.blt r.1 144) (cond (Nat.blt r.1 115) (cond (Nat.blt r.1 108) (cond (Nat.blt r.1 104) (cond (Nat.blt r.1 100) 0 (cond (Nat.blt r.1 101) 1 2)) (cond (Nat.blt r.1 106) (cond (Nat.blt r.1 105) 3 4) (cond (Nat.blt r.1 107) 5 6))) (cond (Nat.blt r.1 111) (cond (Nat.blt r.1 109) 7 (cond (Nat.blt r.1 110) 8 9)) (cond (Nat.blt r.1 113) (cond (Nat.blt r.1 112) 10 11) (cond (Nat.blt r.1 114) 12 13)))) (cond (Nat.blt r.1 136) (cond (Nat.blt r.1 132) (cond (Nat.blt r.1 116) 14 (cond (Nat.blt r.1 117) 15 16)) (cond (Nat.blt r.1 134) (cond (Nat.blt r.1 133) 17 18) (cond (Nat.blt r.1 135) 19 20))) (cond (Nat.blt r.1 140) (cond (Nat.blt r.1 138) (cond (Nat.blt r.1 137) 21 22) (cond (Nat.blt r.1 139) 23 24)) (cond (Nat.blt r.1 142) (cond (Nat.blt r.1 141) 25 26) (cond (Nat.blt r.1 143) 27 28))))) (cond (Nat.blt r.1 162) (cond (Nat.blt r.1 152) (cond (Nat.blt r.1 148) (cond (Nat.blt r.1 145) 29 (cond (Nat.blt r.1 146) 30 31)) (cond (Nat.blt r.1 150) (cond (Nat.blt r.1 149) 32 33) (cond (Nat.blt r.1 151) 34 35))) (cond (Nat.blt r.1 157) (cond (Nat.blt r.1 154) (cond (Nat.blt r.1 153) 36 37) (cond (Nat.blt r.1 155) 38 39)) (cond (Nat.blt r.1 160) (cond (Nat.blt r.1 159) 40 41) (cond (Nat.blt r.1 161) 42 43)))) (cond (Nat.blt r.1 169) (cond (Nat.blt r.1 165) (cond (Nat.blt r.1 163) 44 (cond (Nat.blt r.1 164) 45 46)) (cond (Nat.blt r.1 167) (cond (Nat.blt r.1 166) 47 48) (cond (Nat.blt r.1 168) 49 50))) (cond (Nat.blt r.1 178) (cond (Nat.blt r.1 176) (cond (Nat.blt r.1 175) 51 52) (cond (Nat.blt r.1 177) 53 54)) (cond (Nat.blt r.1 180) (cond (Nat.blt r.1 179) 55 56) (cond (Nat.blt r.1 181) 57 58))))))
