/-! CONSTRUCTORS (by program) -/
abbrev M_X0_init : MD := (RX0, cX0_init, 1, (none : Option FieldType), 1, 20, true, fun _ _ _ => True)
abbrev M_X1_init : MD := (RX1, cX1_init, 1, (none : Option FieldType), 1, 20, true, fun _ _ _ => True)
abbrev M_X3_init : MD := (RX3, cX3_init, 1, (none : Option FieldType), 1, 20, true, fun _ _ _ => True)
abbrev M_X4_init : MD := (RX4, cX4_init, 1, (none : Option FieldType), 2, 40, true, fun _ _ _ => True)
abbrev M_X5_init : MD := (RX5, cX5_init, 1, (none : Option FieldType), 1, 20, true, fun _ _ _ => True)
abbrev M_X6_init : MD := (RX6, cX6_init, 1, (none : Option FieldType), 1, 20, true, fun _ _ _ => True)
abbrev M_X7_init : MD := (RX7, cX7_init, 1, (none : Option FieldType), 1, 20, true, fun _ _ _ => True)
abbrev M_X8_init : MD := (RX8, cX8_init, 1, (none : Option FieldType), 1, 20, true, fun _ _ _ => True)
abbrev M_X9_init : MD := (RX9, cX9_init, 2, (none : Option FieldType), 3, 60, true, fun _ _ _ => True)
abbrev M_X10_init : MD := (RX10, cX10_init, 1, (none : Option FieldType), 4, 81, true, fun _ _ _ => True)
theorem wo_X10_3 : Cond.methodLink RX10 3 Lib.objectInit ∈ WS := inWS 42 (by decide +kernel) (by decide +kernel)
theorem wo_i : Cond.instanceMethod Lib.objectInit ∈ WS := inWS 43 (by decide +kernel) (by decide +kernel)
theorem wo_c : Cond.code Lib.objectInit ⟨#[0xb1]⟩ 1 none ∈ WS := inWS 44 (by decide +kernel) (by decide +kernel)
theorem wk_X10_9 : Cond.classLink RX10 9 RX0 ∈ WS := inWS 45 (by decide +kernel) (by decide +kernel)
theorem wi_X0 : Cond.instantiable RX0 14 ∈ WS := inWS 46 (by decide +kernel) (by decide +kernel)
theorem wz_X0 : Cond.initialized RX0 ∈ WS := inWS 23 (by decide +kernel) (by decide +kernel)
theorem wo_X0_3 : Cond.methodLink RX0 3 Lib.objectInit ∈ WS := inWS 50 (by decide +kernel) (by decide +kernel)
theorem wyint : Cond.arrayClass .int ∈ WS := inWS 123 (by decide +kernel) (by decide +kernel)
theorem ml_X10_11 : MLn RX10 11 yX0_init M_X0_init := ⟨⟨"ClashDays", List.mem_of_getElem? (i := 0) rfl⟩, inWS 23 (by decide +kernel) (by decide +kernel), inWS 49 (by decide +kernel) (by decide +kernel), by decide +kernel⟩
theorem mi_X0_init : Cond.instanceMethod yX0_init ∈ WS := inWS 48 (by decide +kernel) (by decide +kernel)
theorem wk_X10_22 : Cond.classLink RX10 22 RX7 ∈ WS := inWS 124 (by decide +kernel) (by decide +kernel)
theorem wi_X7 : Cond.instantiable RX7 5 ∈ WS := inWS 125 (by decide +kernel) (by decide +kernel)
theorem wz_X7 : Cond.initialized RX7 ∈ WS := inWS 24 (by decide +kernel) (by decide +kernel)
theorem wo_X7_3 : Cond.methodLink RX7 3 Lib.objectInit ∈ WS := inWS 129 (by decide +kernel) (by decide +kernel)
theorem wf_X7_11 : Cond.fieldLink RX7 11 (TX7 0).1 (TX7 0).2.1 (TX7 0).2.2.1 ∈ WS := inWS 130 (by decide +kernel) (by decide +kernel)
theorem ml_X10_24 : MLn RX10 24 yX7_init M_X7_init := ⟨⟨"ClashDays", List.mem_of_getElem? (i := 1) rfl⟩, inWS 24 (by decide +kernel) (by decide +kernel), inWS 128 (by decide +kernel) (by decide +kernel), by decide +kernel⟩
theorem mi_X7_init : Cond.instanceMethod yX7_init ∈ WS := inWS 127 (by decide +kernel) (by decide +kernel)
theorem wk_X10_29 : Cond.classLink RX10 29 RX6 ∈ WS := inWS 143 (by decide +kernel) (by decide +kernel)
theorem wi_X6 : Cond.instantiable RX6 3 ∈ WS := inWS 144 (by decide +kernel) (by decide +kernel)
theorem wz_X6 : Cond.initialized RX6 ∈ WS := inWS 25 (by decide +kernel) (by decide +kernel)
theorem wo_X6_3 : Cond.methodLink RX6 3 Lib.objectInit ∈ WS := inWS 148 (by decide +kernel) (by decide +kernel)
theorem wf_X6_15 : Cond.fieldLink RX6 15 (TX6 1).1 (TX6 1).2.1 (TX6 1).2.2.1 ∈ WS := inWS 150 (by decide +kernel) (by decide +kernel)
theorem wylong : Cond.arrayClass .long ∈ WS := inWS 159 (by decide +kernel) (by decide +kernel)
theorem wf_X6_18 : Cond.fieldLink RX6 18 (TX6 2).1 (TX6 2).2.1 (TX6 2).2.2.1 ∈ WS := inWS 151 (by decide +kernel) (by decide +kernel)
theorem ml_X10_31 : MLn RX10 31 yX6_init M_X6_init := ⟨⟨"ClashDays", List.mem_of_getElem? (i := 2) rfl⟩, inWS 25 (by decide +kernel) (by decide +kernel), inWS 147 (by decide +kernel) (by decide +kernel), by decide +kernel⟩
theorem mi_X6_init : Cond.instanceMethod yX6_init ∈ WS := inWS 146 (by decide +kernel) (by decide +kernel)
theorem wk_X10_40 : Cond.classLink RX10 40 RX4 ∈ WS := inWS 160 (by decide +kernel) (by decide +kernel)
theorem wi_X4 : Cond.instantiable RX4 1 ∈ WS := inWS 161 (by decide +kernel) (by decide +kernel)
theorem wz_X4 : Cond.initialized RX4 ∈ WS := inWS 26 (by decide +kernel) (by decide +kernel)
theorem wo_X4_3 : Cond.methodLink RX4 3 Lib.objectInit ∈ WS := inWS 165 (by decide +kernel) (by decide +kernel)
theorem wk_X4_9 : Cond.classLink RX4 9 RX3 ∈ WS := inWS 166 (by decide +kernel) (by decide +kernel)
theorem wi_X3 : Cond.instantiable RX3 14 ∈ WS := inWS 167 (by decide +kernel) (by decide +kernel)
theorem wz_X3 : Cond.initialized RX3 ∈ WS := inWS 27 (by decide +kernel) (by decide +kernel)
theorem wo_X3_3 : Cond.methodLink RX3 3 Lib.objectInit ∈ WS := inWS 171 (by decide +kernel) (by decide +kernel)
theorem ml_X4_11 : MLn RX4 11 yX3_init M_X3_init := ⟨⟨"ClashDays", List.mem_of_getElem? (i := 4) rfl⟩, inWS 27 (by decide +kernel) (by decide +kernel), inWS 170 (by decide +kernel) (by decide +kernel), by decide +kernel⟩
theorem mi_X3_init : Cond.instanceMethod yX3_init ∈ WS := inWS 169 (by decide +kernel) (by decide +kernel)
theorem ml_X10_42 : MLn RX10 42 yX4_init M_X4_init := ⟨⟨"ClashDays", List.mem_of_getElem? (i := 3) rfl⟩, inWS 26 (by decide +kernel) (by decide +kernel), inWS 164 (by decide +kernel) (by decide +kernel), by decide +kernel⟩
theorem mi_X4_init : Cond.instanceMethod yX4_init ∈ WS := inWS 163 (by decide +kernel) (by decide +kernel)
theorem wk_X10_47 : Cond.classLink RX10 47 RX9 ∈ WS := inWS 219 (by decide +kernel) (by decide +kernel)
theorem wi_X9 : Cond.instantiable RX9 4 ∈ WS := inWS 220 (by decide +kernel) (by decide +kernel)
theorem wz_X9 : Cond.initialized RX9 ∈ WS := inWS 28 (by decide +kernel) (by decide +kernel)
theorem wo_X9_3 : Cond.methodLink RX9 3 Lib.objectInit ∈ WS := inWS 224 (by decide +kernel) (by decide +kernel)
theorem wk_X9_9 : Cond.classLink RX9 9 RX4 ∈ WS := inWS 225 (by decide +kernel) (by decide +kernel)
theorem ml_X9_11 : MLn RX9 11 yX4_init M_X4_init := ⟨⟨"ClashDays", List.mem_of_getElem? (i := 5) rfl⟩, inWS 26 (by decide +kernel) (by decide +kernel), inWS 164 (by decide +kernel) (by decide +kernel), by decide +kernel⟩
theorem wk_X9_18 : Cond.classLink RX9 18 "ClashDays$Week" ∈ WS := inWS 227 (by decide +kernel) (by decide +kernel)
theorem wyboolean : Cond.arrayClass .boolean ∈ WS := inWS 275 (by decide +kernel) (by decide +kernel)
theorem wi_X8 : Cond.instantiable RX8 9 ∈ WS := inWS 229 (by decide +kernel) (by decide +kernel)
theorem wz_X8 : Cond.initialized RX8 ∈ WS := inWS 29 (by decide +kernel) (by decide +kernel)
theorem wo_X8_3 : Cond.methodLink RX8 3 Lib.objectInit ∈ WS := inWS 233 (by decide +kernel) (by decide +kernel)
theorem ml_X9_32 : MLn RX9 32 yX8_init M_X8_init := ⟨⟨"ClashDays", List.mem_of_getElem? (i := 6) rfl⟩, inWS 29 (by decide +kernel) (by decide +kernel), inWS 232 (by decide +kernel) (by decide +kernel), by decide +kernel⟩
theorem mi_X8_init : Cond.instanceMethod yX8_init ∈ WS := inWS 231 (by decide +kernel) (by decide +kernel)
theorem ml_X10_49 : ML RX10 49 yX9_init M_X9_init := ⟨inWS 221 (by decide +kernel) (by decide +kernel), inWS 28 (by decide +kernel) (by decide +kernel), inWS 223 (by decide +kernel) (by decide +kernel), by decide +kernel⟩
theorem mi_X9_init : Cond.instanceMethod yX9_init ∈ WS := inWS 222 (by decide +kernel) (by decide +kernel)
theorem wk_X10_54 : Cond.classLink RX10 54 "ClashDays$Week" ∈ WS := inWS 289 (by decide +kernel) (by decide +kernel)
theorem ml_X10_56 : MLn RX10 56 yX8_init M_X8_init := ⟨⟨"ClashDays", List.mem_of_getElem? (i := 7) rfl⟩, inWS 29 (by decide +kernel) (by decide +kernel), inWS 232 (by decide +kernel) (by decide +kernel), by decide +kernel⟩
theorem wk_X10_61 : Cond.classLink RX10 61 RX1 ∈ WS := inWS 291 (by decide +kernel) (by decide +kernel)
theorem wi_X1 : Cond.instantiable RX1 10 ∈ WS := inWS 292 (by decide +kernel) (by decide +kernel)
theorem wz_X1 : Cond.initialized RX1 ∈ WS := inWS 30 (by decide +kernel) (by decide +kernel)
theorem wo_X1_3 : Cond.methodLink RX1 3 Lib.objectInit ∈ WS := inWS 296 (by decide +kernel) (by decide +kernel)
theorem ml_X10_63 : MLn RX10 63 yX1_init M_X1_init := ⟨⟨"ClashDays", List.mem_of_getElem? (i := 8) rfl⟩, inWS 30 (by decide +kernel) (by decide +kernel), inWS 295 (by decide +kernel) (by decide +kernel), by decide +kernel⟩
theorem mi_X1_init : Cond.instanceMethod yX1_init ∈ WS := inWS 294 (by decide +kernel) (by decide +kernel)
theorem wk_X10_68 : Cond.classLink RX10 68 RX5 ∈ WS := inWS 328 (by decide +kernel) (by decide +kernel)
theorem wi_X5 : Cond.instantiable RX5 9 ∈ WS := inWS 329 (by decide +kernel) (by decide +kernel)
theorem wz_X5 : Cond.initialized RX5 ∈ WS := inWS 31 (by decide +kernel) (by decide +kernel)
theorem wo_X5_3 : Cond.methodLink RX5 3 Lib.objectInit ∈ WS := inWS 333 (by decide +kernel) (by decide +kernel)
theorem ml_X10_70 : MLn RX10 70 yX5_init M_X5_init := ⟨⟨"ClashDays", List.mem_of_getElem? (i := 9) rfl⟩, inWS 31 (by decide +kernel) (by decide +kernel), inWS 332 (by decide +kernel) (by decide +kernel), by decide +kernel⟩
theorem mi_X5_init : Cond.instanceMethod yX5_init ∈ WS := inWS 331 (by decide +kernel) (by decide +kernel)
theorem wf_X10_75 : Cond.fieldLink RX10 75 (TX10 12).1 (TX10 12).2.1 (TX10 12).2.2.1 ∈ WS := inWS 374 (by decide +kernel) (by decide +kernel)
theorem wf_X10_78 : Cond.fieldLink RX10 78 (TX10 13).1 (TX10 13).2.1 (TX10 13).2.2.1 ∈ WS := inWS 375 (by decide +kernel) (by decide +kernel)
def rc_X0_init_2 (ρ : Mem) : Mem := (mup (mup (mup (mup (mup (mup (mup (mup ρ 1 0 2) 1 1 3) 1 2 4) 1 3 5) 1 4 6) 1 5 7) 1 6 8) 1 7 9)
def sc_X0_init_2 (σ : Mem) : Mem := (mup (mup (mup σ 1 11 (24)) 1 12 (1)) 1 13 (1))
set_option maxHeartbeats 4000000 in
set_option maxRecDepth 20000 in
theorem c_X0_init_2 (ρ σ : Mem) : Ms yX0_init M_X0_init 2 10 [(2, 1)] ρ σ (none, rc_X0_init_2 ρ, sc_X0_init_2 σ) := by
  refine Ms.of 0 (by decide +kernel) rfl (fun _ => rfl) (fun _ _ _ => trivial) rfl rfl ?_
  show Ev M_X0_init 2 10 _ 0 2 ρ σ [(2, 1)] []
  show Ev _ _ _ _ 0 2 _ _ [(2, 1)] []
  refine ev_aload_n dX0_init_0 rfl (by decide) ?_
  show Ev _ _ _ _ 1 2 _ _ [(2, 1)] [(2, (1 : Int))]
  refine ev_oinit dX0_init_1 wo_X0_3 wo_i wo_c (by decide) (by decide) (by decide) ?_
  show Ev _ _ _ _ 4 2 _ _ [(2, 1)] []
  refine ev_aload_n dX0_init_4 rfl (by decide) ?_
  show Ev _ _ _ _ 5 2 _ _ [(2, 1)] [(2, (1 : Int))]
  refine ev_bipush dX0_init_5 (by decide) (by decide) ?_
  show Ev _ _ _ _ 7 2 _ _ [(2, 1)] [(0, (12 : Int)), (2, (1 : Int))]
  refine ev_newi (N := 12) dX0_init_7 wyint sp2 (by decide) (by decide) ?_
  show Ev _ _ _ _ 9 3 _ _ [(2, 1)] [(2, (2 : Int)), (2, (1 : Int))]
  refine ev_putrF (j := 0) dX0_init_9 cf_X0 wf_X0_9 sp1 (by decide) (by decide) rfl rfl rfl rfl (fun z => absurd z (by decide +kernel)) ?_
  show Ev _ _ _ _ 12 3 _ _ [(2, 1)] []
  refine ev_aload_n dX0_init_12 rfl (by decide) ?_
  show Ev _ _ _ _ 13 3 _ _ [(2, 1)] [(2, (1 : Int))]
  refine ev_bipush dX0_init_13 (by decide) (by decide) ?_
  show Ev _ _ _ _ 15 3 _ _ [(2, 1)] [(0, (12 : Int)), (2, (1 : Int))]
  refine ev_newi (N := 12) dX0_init_15 wyint sp3 (by decide) (by decide) ?_
  show Ev _ _ _ _ 17 4 _ _ [(2, 1)] [(2, (3 : Int)), (2, (1 : Int))]
  refine ev_putrF (j := 1) dX0_init_17 cf_X0 wf_X0_15 sp1 (by decide) (by decide) rfl rfl rfl rfl (fun z => absurd z (by decide +kernel)) ?_
  show Ev _ _ _ _ 20 4 _ _ [(2, 1)] []
  refine ev_aload_n dX0_init_20 rfl (by decide) ?_
  show Ev _ _ _ _ 21 4 _ _ [(2, 1)] [(2, (1 : Int))]
  refine ev_bipush dX0_init_21 (by decide) (by decide) ?_
  show Ev _ _ _ _ 23 4 _ _ [(2, 1)] [(0, (12 : Int)), (2, (1 : Int))]
  refine ev_newi (N := 12) dX0_init_23 wyint sp4 (by decide) (by decide) ?_
  show Ev _ _ _ _ 25 5 _ _ [(2, 1)] [(2, (4 : Int)), (2, (1 : Int))]
  refine ev_putrF (j := 2) dX0_init_25 cf_X0 wf_X0_18 sp1 (by decide) (by decide) rfl rfl rfl rfl (fun z => absurd z (by decide +kernel)) ?_
  show Ev _ _ _ _ 28 5 _ _ [(2, 1)] []
  refine ev_aload_n dX0_init_28 rfl (by decide) ?_
  show Ev _ _ _ _ 29 5 _ _ [(2, 1)] [(2, (1 : Int))]
  refine ev_bipush dX0_init_29 (by decide) (by decide) ?_
  show Ev _ _ _ _ 31 5 _ _ [(2, 1)] [(0, (10 : Int)), (2, (1 : Int))]
  refine ev_newi (N := 10) dX0_init_31 wyint sp5 (by decide) (by decide) ?_
  show Ev _ _ _ _ 33 6 _ _ [(2, 1)] [(2, (5 : Int)), (2, (1 : Int))]
  refine ev_putrF (j := 3) dX0_init_33 cf_X0 wf_X0_21 sp1 (by decide) (by decide) rfl rfl rfl rfl (fun z => absurd z (by decide +kernel)) ?_
  show Ev _ _ _ _ 36 6 _ _ [(2, 1)] []
  refine ev_aload_n dX0_init_36 rfl (by decide) ?_
  show Ev _ _ _ _ 37 6 _ _ [(2, 1)] [(2, (1 : Int))]
  refine ev_bipush dX0_init_37 (by decide) (by decide) ?_
  show Ev _ _ _ _ 39 6 _ _ [(2, 1)] [(0, (10 : Int)), (2, (1 : Int))]
  refine ev_newi (N := 10) dX0_init_39 wyint sp6 (by decide) (by decide) ?_
  show Ev _ _ _ _ 41 7 _ _ [(2, 1)] [(2, (6 : Int)), (2, (1 : Int))]
  refine ev_putrF (j := 4) dX0_init_41 cf_X0 wf_X0_24 sp1 (by decide) (by decide) rfl rfl rfl rfl (fun z => absurd z (by decide +kernel)) ?_
  show Ev _ _ _ _ 44 7 _ _ [(2, 1)] []
  refine ev_aload_n dX0_init_44 rfl (by decide) ?_
  show Ev _ _ _ _ 45 7 _ _ [(2, 1)] [(2, (1 : Int))]
  refine ev_bipush dX0_init_45 (by decide) (by decide) ?_
  show Ev _ _ _ _ 47 7 _ _ [(2, 1)] [(0, (10 : Int)), (2, (1 : Int))]
  refine ev_newi (N := 10) dX0_init_47 wyint sp7 (by decide) (by decide) ?_
  show Ev _ _ _ _ 49 8 _ _ [(2, 1)] [(2, (7 : Int)), (2, (1 : Int))]
  refine ev_putrF (j := 5) dX0_init_49 cf_X0 wf_X0_27 sp1 (by decide) (by decide) rfl rfl rfl rfl (fun z => absurd z (by decide +kernel)) ?_
  show Ev _ _ _ _ 52 8 _ _ [(2, 1)] []
  refine ev_aload_n dX0_init_52 rfl (by decide) ?_
  show Ev _ _ _ _ 53 8 _ _ [(2, 1)] [(2, (1 : Int))]
  refine ev_bipush dX0_init_53 (by decide) (by decide) ?_
  show Ev _ _ _ _ 55 8 _ _ [(2, 1)] [(0, (10 : Int)), (2, (1 : Int))]
  refine ev_newi (N := 10) dX0_init_55 wyint sp8 (by decide) (by decide) ?_
  show Ev _ _ _ _ 57 9 _ _ [(2, 1)] [(2, (8 : Int)), (2, (1 : Int))]
  refine ev_putrF (j := 6) dX0_init_57 cf_X0 wf_X0_30 sp1 (by decide) (by decide) rfl rfl rfl rfl (fun z => absurd z (by decide +kernel)) ?_
  show Ev _ _ _ _ 60 9 _ _ [(2, 1)] []
  refine ev_aload_n dX0_init_60 rfl (by decide) ?_
  show Ev _ _ _ _ 61 9 _ _ [(2, 1)] [(2, (1 : Int))]
  refine ev_bipush dX0_init_61 (by decide) (by decide) ?_
  show Ev _ _ _ _ 63 9 _ _ [(2, 1)] [(0, (6 : Int)), (2, (1 : Int))]
  refine ev_newi (N := 6) dX0_init_63 wyint sp9 (by decide) (by decide) ?_
  show Ev _ _ _ _ 65 10 _ _ [(2, 1)] [(2, (9 : Int)), (2, (1 : Int))]
  refine ev_putrF (j := 7) dX0_init_65 cf_X0 wf_X0_33 sp1 (by decide) (by decide) rfl rfl rfl rfl (fun z => absurd z (by decide +kernel)) ?_
  show Ev _ _ _ _ 68 10 _ _ [(2, 1)] []
  refine ev_aload_n dX0_init_68 rfl (by decide) ?_
  show Ev _ _ _ _ 69 10 _ _ [(2, 1)] [(2, (1 : Int))]
  refine ev_bipush dX0_init_69 (by decide) (by decide) ?_
  show Ev _ _ _ _ 71 10 _ _ [(2, 1)] [(0, (24 : Int)), (2, (1 : Int))]
  refine ev_putf (j := 11) (t := 0) dX0_init_71 cf_X0 wf_X0_36 sp1 (by decide) (by decide) rfl (by decide) (by decide) rfl (fun z => absurd z (by decide +kernel)) ?_
  show Ev _ _ _ _ 74 10 _ _ [(2, 1)] []
  refine ev_aload_n dX0_init_74 rfl (by decide) ?_
  show Ev _ _ _ _ 75 10 _ _ [(2, 1)] [(2, (1 : Int))]
  refine ev_iconst dX0_init_75 (by decide) ?_
  show Ev _ _ _ _ 76 10 _ _ [(2, 1)] [(0, (1 : Int)), (2, (1 : Int))]
  refine ev_putf (j := 12) (t := 0) dX0_init_76 cf_X0 wf_X0_40 sp1 (by decide) (by decide) rfl (by decide) (by decide) rfl (fun z => absurd z (by decide +kernel)) ?_
  show Ev _ _ _ _ 79 10 _ _ [(2, 1)] []
  refine ev_aload_n dX0_init_79 rfl (by decide) ?_
  show Ev _ _ _ _ 80 10 _ _ [(2, 1)] [(2, (1 : Int))]
  refine ev_iconst dX0_init_80 (by decide) ?_
  show Ev _ _ _ _ 81 10 _ _ [(2, 1)] [(0, (1 : Int)), (2, (1 : Int))]
  refine ev_putf (j := 13) (t := 0) dX0_init_81 cf_X0 wf_X0_43 sp1 (by decide) (by decide) rfl (by decide) (by decide) rfl (fun z => absurd z (by decide +kernel)) ?_
  show Ev _ _ _ _ 84 10 _ _ [(2, 1)] []
  exact ev_vret dX0_init_84 rfl rfl
def rc_X0_init_11 (ρ : Mem) : Mem := (mup (mup (mup (mup (mup (mup (mup (mup ρ 10 0 11) 10 1 12) 10 2 13) 10 3 14) 10 4 15) 10 5 16) 10 6 17) 10 7 18)
def sc_X0_init_11 (σ : Mem) : Mem := (mup (mup (mup σ 10 11 (24)) 10 12 (1)) 10 13 (1))
set_option maxHeartbeats 4000000 in
set_option maxRecDepth 20000 in
theorem c_X0_init_11 (ρ σ : Mem) : Ms yX0_init M_X0_init 11 19 [(2, 10)] ρ σ (none, rc_X0_init_11 ρ, sc_X0_init_11 σ) := by
  refine Ms.of 0 (by decide +kernel) rfl (fun _ => rfl) (fun _ _ _ => trivial) rfl rfl ?_
  show Ev M_X0_init 11 19 _ 0 11 ρ σ [(2, 10)] []
  show Ev _ _ _ _ 0 11 _ _ [(2, 10)] []
  refine ev_aload_n dX0_init_0 rfl (by decide) ?_
  show Ev _ _ _ _ 1 11 _ _ [(2, 10)] [(2, (10 : Int))]
  refine ev_oinit dX0_init_1 wo_X0_3 wo_i wo_c (by decide) (by decide) (by decide) ?_
  show Ev _ _ _ _ 4 11 _ _ [(2, 10)] []
  refine ev_aload_n dX0_init_4 rfl (by decide) ?_
  show Ev _ _ _ _ 5 11 _ _ [(2, 10)] [(2, (10 : Int))]
  refine ev_bipush dX0_init_5 (by decide) (by decide) ?_
  show Ev _ _ _ _ 7 11 _ _ [(2, 10)] [(0, (12 : Int)), (2, (10 : Int))]
  refine ev_newi (N := 12) dX0_init_7 wyint sp11 (by decide) (by decide) ?_
  show Ev _ _ _ _ 9 12 _ _ [(2, 10)] [(2, (11 : Int)), (2, (10 : Int))]
  refine ev_putrF (j := 0) dX0_init_9 cf_X0 wf_X0_9 sp10 (by decide) (by decide) rfl rfl rfl rfl (fun z => absurd z (by decide +kernel)) ?_
  show Ev _ _ _ _ 12 12 _ _ [(2, 10)] []
  refine ev_aload_n dX0_init_12 rfl (by decide) ?_
  show Ev _ _ _ _ 13 12 _ _ [(2, 10)] [(2, (10 : Int))]
  refine ev_bipush dX0_init_13 (by decide) (by decide) ?_
  show Ev _ _ _ _ 15 12 _ _ [(2, 10)] [(0, (12 : Int)), (2, (10 : Int))]
  refine ev_newi (N := 12) dX0_init_15 wyint sp12 (by decide) (by decide) ?_
  show Ev _ _ _ _ 17 13 _ _ [(2, 10)] [(2, (12 : Int)), (2, (10 : Int))]
  refine ev_putrF (j := 1) dX0_init_17 cf_X0 wf_X0_15 sp10 (by decide) (by decide) rfl rfl rfl rfl (fun z => absurd z (by decide +kernel)) ?_
  show Ev _ _ _ _ 20 13 _ _ [(2, 10)] []
  refine ev_aload_n dX0_init_20 rfl (by decide) ?_
  show Ev _ _ _ _ 21 13 _ _ [(2, 10)] [(2, (10 : Int))]
  refine ev_bipush dX0_init_21 (by decide) (by decide) ?_
  show Ev _ _ _ _ 23 13 _ _ [(2, 10)] [(0, (12 : Int)), (2, (10 : Int))]
  refine ev_newi (N := 12) dX0_init_23 wyint sp13 (by decide) (by decide) ?_
  show Ev _ _ _ _ 25 14 _ _ [(2, 10)] [(2, (13 : Int)), (2, (10 : Int))]
  refine ev_putrF (j := 2) dX0_init_25 cf_X0 wf_X0_18 sp10 (by decide) (by decide) rfl rfl rfl rfl (fun z => absurd z (by decide +kernel)) ?_
  show Ev _ _ _ _ 28 14 _ _ [(2, 10)] []
  refine ev_aload_n dX0_init_28 rfl (by decide) ?_
  show Ev _ _ _ _ 29 14 _ _ [(2, 10)] [(2, (10 : Int))]
  refine ev_bipush dX0_init_29 (by decide) (by decide) ?_
  show Ev _ _ _ _ 31 14 _ _ [(2, 10)] [(0, (10 : Int)), (2, (10 : Int))]
  refine ev_newi (N := 10) dX0_init_31 wyint sp14 (by decide) (by decide) ?_
  show Ev _ _ _ _ 33 15 _ _ [(2, 10)] [(2, (14 : Int)), (2, (10 : Int))]
  refine ev_putrF (j := 3) dX0_init_33 cf_X0 wf_X0_21 sp10 (by decide) (by decide) rfl rfl rfl rfl (fun z => absurd z (by decide +kernel)) ?_
  show Ev _ _ _ _ 36 15 _ _ [(2, 10)] []
  refine ev_aload_n dX0_init_36 rfl (by decide) ?_
  show Ev _ _ _ _ 37 15 _ _ [(2, 10)] [(2, (10 : Int))]
  refine ev_bipush dX0_init_37 (by decide) (by decide) ?_
  show Ev _ _ _ _ 39 15 _ _ [(2, 10)] [(0, (10 : Int)), (2, (10 : Int))]
  refine ev_newi (N := 10) dX0_init_39 wyint sp15 (by decide) (by decide) ?_
  show Ev _ _ _ _ 41 16 _ _ [(2, 10)] [(2, (15 : Int)), (2, (10 : Int))]
  refine ev_putrF (j := 4) dX0_init_41 cf_X0 wf_X0_24 sp10 (by decide) (by decide) rfl rfl rfl rfl (fun z => absurd z (by decide +kernel)) ?_
  show Ev _ _ _ _ 44 16 _ _ [(2, 10)] []
  refine ev_aload_n dX0_init_44 rfl (by decide) ?_
  show Ev _ _ _ _ 45 16 _ _ [(2, 10)] [(2, (10 : Int))]
  refine ev_bipush dX0_init_45 (by decide) (by decide) ?_
  show Ev _ _ _ _ 47 16 _ _ [(2, 10)] [(0, (10 : Int)), (2, (10 : Int))]
  refine ev_newi (N := 10) dX0_init_47 wyint sp16 (by decide) (by decide) ?_
  show Ev _ _ _ _ 49 17 _ _ [(2, 10)] [(2, (16 : Int)), (2, (10 : Int))]
  refine ev_putrF (j := 5) dX0_init_49 cf_X0 wf_X0_27 sp10 (by decide) (by decide) rfl rfl rfl rfl (fun z => absurd z (by decide +kernel)) ?_
  show Ev _ _ _ _ 52 17 _ _ [(2, 10)] []
  refine ev_aload_n dX0_init_52 rfl (by decide) ?_
  show Ev _ _ _ _ 53 17 _ _ [(2, 10)] [(2, (10 : Int))]
  refine ev_bipush dX0_init_53 (by decide) (by decide) ?_
  show Ev _ _ _ _ 55 17 _ _ [(2, 10)] [(0, (10 : Int)), (2, (10 : Int))]
  refine ev_newi (N := 10) dX0_init_55 wyint sp17 (by decide) (by decide) ?_
  show Ev _ _ _ _ 57 18 _ _ [(2, 10)] [(2, (17 : Int)), (2, (10 : Int))]
  refine ev_putrF (j := 6) dX0_init_57 cf_X0 wf_X0_30 sp10 (by decide) (by decide) rfl rfl rfl rfl (fun z => absurd z (by decide +kernel)) ?_
  show Ev _ _ _ _ 60 18 _ _ [(2, 10)] []
  refine ev_aload_n dX0_init_60 rfl (by decide) ?_
  show Ev _ _ _ _ 61 18 _ _ [(2, 10)] [(2, (10 : Int))]
  refine ev_bipush dX0_init_61 (by decide) (by decide) ?_
  show Ev _ _ _ _ 63 18 _ _ [(2, 10)] [(0, (6 : Int)), (2, (10 : Int))]
  refine ev_newi (N := 6) dX0_init_63 wyint sp18 (by decide) (by decide) ?_
  show Ev _ _ _ _ 65 19 _ _ [(2, 10)] [(2, (18 : Int)), (2, (10 : Int))]
  refine ev_putrF (j := 7) dX0_init_65 cf_X0 wf_X0_33 sp10 (by decide) (by decide) rfl rfl rfl rfl (fun z => absurd z (by decide +kernel)) ?_
  show Ev _ _ _ _ 68 19 _ _ [(2, 10)] []
  refine ev_aload_n dX0_init_68 rfl (by decide) ?_
  show Ev _ _ _ _ 69 19 _ _ [(2, 10)] [(2, (10 : Int))]
  refine ev_bipush dX0_init_69 (by decide) (by decide) ?_
  show Ev _ _ _ _ 71 19 _ _ [(2, 10)] [(0, (24 : Int)), (2, (10 : Int))]
  refine ev_putf (j := 11) (t := 0) dX0_init_71 cf_X0 wf_X0_36 sp10 (by decide) (by decide) rfl (by decide) (by decide) rfl (fun z => absurd z (by decide +kernel)) ?_
  show Ev _ _ _ _ 74 19 _ _ [(2, 10)] []
  refine ev_aload_n dX0_init_74 rfl (by decide) ?_
  show Ev _ _ _ _ 75 19 _ _ [(2, 10)] [(2, (10 : Int))]
  refine ev_iconst dX0_init_75 (by decide) ?_
  show Ev _ _ _ _ 76 19 _ _ [(2, 10)] [(0, (1 : Int)), (2, (10 : Int))]
  refine ev_putf (j := 12) (t := 0) dX0_init_76 cf_X0 wf_X0_40 sp10 (by decide) (by decide) rfl (by decide) (by decide) rfl (fun z => absurd z (by decide +kernel)) ?_
  show Ev _ _ _ _ 79 19 _ _ [(2, 10)] []
  refine ev_aload_n dX0_init_79 rfl (by decide) ?_
  show Ev _ _ _ _ 80 19 _ _ [(2, 10)] [(2, (10 : Int))]
  refine ev_iconst dX0_init_80 (by decide) ?_
  show Ev _ _ _ _ 81 19 _ _ [(2, 10)] [(0, (1 : Int)), (2, (10 : Int))]
  refine ev_putf (j := 13) (t := 0) dX0_init_81 cf_X0 wf_X0_43 sp10 (by decide) (by decide) rfl (by decide) (by decide) rfl (fun z => absurd z (by decide +kernel)) ?_
  show Ev _ _ _ _ 84 19 _ _ [(2, 10)] []
  exact ev_vret dX0_init_84 rfl rfl
def rc_X0_init_20 (ρ : Mem) : Mem := (mup (mup (mup (mup (mup (mup (mup (mup ρ 19 0 20) 19 1 21) 19 2 22) 19 3 23) 19 4 24) 19 5 25) 19 6 26) 19 7 27)
def sc_X0_init_20 (σ : Mem) : Mem := (mup (mup (mup σ 19 11 (24)) 19 12 (1)) 19 13 (1))
set_option maxHeartbeats 4000000 in
set_option maxRecDepth 20000 in
theorem c_X0_init_20 (ρ σ : Mem) : Ms yX0_init M_X0_init 20 28 [(2, 19)] ρ σ (none, rc_X0_init_20 ρ, sc_X0_init_20 σ) := by
  refine Ms.of 0 (by decide +kernel) rfl (fun _ => rfl) (fun _ _ _ => trivial) rfl rfl ?_
  show Ev M_X0_init 20 28 _ 0 20 ρ σ [(2, 19)] []
  show Ev _ _ _ _ 0 20 _ _ [(2, 19)] []
  refine ev_aload_n dX0_init_0 rfl (by decide) ?_
  show Ev _ _ _ _ 1 20 _ _ [(2, 19)] [(2, (19 : Int))]
  refine ev_oinit dX0_init_1 wo_X0_3 wo_i wo_c (by decide) (by decide) (by decide) ?_
  show Ev _ _ _ _ 4 20 _ _ [(2, 19)] []
  refine ev_aload_n dX0_init_4 rfl (by decide) ?_
  show Ev _ _ _ _ 5 20 _ _ [(2, 19)] [(2, (19 : Int))]
  refine ev_bipush dX0_init_5 (by decide) (by decide) ?_
  show Ev _ _ _ _ 7 20 _ _ [(2, 19)] [(0, (12 : Int)), (2, (19 : Int))]
  refine ev_newi (N := 12) dX0_init_7 wyint sp20 (by decide) (by decide) ?_
  show Ev _ _ _ _ 9 21 _ _ [(2, 19)] [(2, (20 : Int)), (2, (19 : Int))]
  refine ev_putrF (j := 0) dX0_init_9 cf_X0 wf_X0_9 sp19 (by decide) (by decide) rfl rfl rfl rfl (fun z => absurd z (by decide +kernel)) ?_
  show Ev _ _ _ _ 12 21 _ _ [(2, 19)] []
  refine ev_aload_n dX0_init_12 rfl (by decide) ?_
  show Ev _ _ _ _ 13 21 _ _ [(2, 19)] [(2, (19 : Int))]
  refine ev_bipush dX0_init_13 (by decide) (by decide) ?_
  show Ev _ _ _ _ 15 21 _ _ [(2, 19)] [(0, (12 : Int)), (2, (19 : Int))]
  refine ev_newi (N := 12) dX0_init_15 wyint sp21 (by decide) (by decide) ?_
  show Ev _ _ _ _ 17 22 _ _ [(2, 19)] [(2, (21 : Int)), (2, (19 : Int))]
  refine ev_putrF (j := 1) dX0_init_17 cf_X0 wf_X0_15 sp19 (by decide) (by decide) rfl rfl rfl rfl (fun z => absurd z (by decide +kernel)) ?_
  show Ev _ _ _ _ 20 22 _ _ [(2, 19)] []
  refine ev_aload_n dX0_init_20 rfl (by decide) ?_
  show Ev _ _ _ _ 21 22 _ _ [(2, 19)] [(2, (19 : Int))]
  refine ev_bipush dX0_init_21 (by decide) (by decide) ?_
  show Ev _ _ _ _ 23 22 _ _ [(2, 19)] [(0, (12 : Int)), (2, (19 : Int))]
  refine ev_newi (N := 12) dX0_init_23 wyint sp22 (by decide) (by decide) ?_
  show Ev _ _ _ _ 25 23 _ _ [(2, 19)] [(2, (22 : Int)), (2, (19 : Int))]
  refine ev_putrF (j := 2) dX0_init_25 cf_X0 wf_X0_18 sp19 (by decide) (by decide) rfl rfl rfl rfl (fun z => absurd z (by decide +kernel)) ?_
  show Ev _ _ _ _ 28 23 _ _ [(2, 19)] []
  refine ev_aload_n dX0_init_28 rfl (by decide) ?_
  show Ev _ _ _ _ 29 23 _ _ [(2, 19)] [(2, (19 : Int))]
  refine ev_bipush dX0_init_29 (by decide) (by decide) ?_
  show Ev _ _ _ _ 31 23 _ _ [(2, 19)] [(0, (10 : Int)), (2, (19 : Int))]
  refine ev_newi (N := 10) dX0_init_31 wyint sp23 (by decide) (by decide) ?_
  show Ev _ _ _ _ 33 24 _ _ [(2, 19)] [(2, (23 : Int)), (2, (19 : Int))]
  refine ev_putrF (j := 3) dX0_init_33 cf_X0 wf_X0_21 sp19 (by decide) (by decide) rfl rfl rfl rfl (fun z => absurd z (by decide +kernel)) ?_
  show Ev _ _ _ _ 36 24 _ _ [(2, 19)] []
  refine ev_aload_n dX0_init_36 rfl (by decide) ?_
  show Ev _ _ _ _ 37 24 _ _ [(2, 19)] [(2, (19 : Int))]
  refine ev_bipush dX0_init_37 (by decide) (by decide) ?_
  show Ev _ _ _ _ 39 24 _ _ [(2, 19)] [(0, (10 : Int)), (2, (19 : Int))]
  refine ev_newi (N := 10) dX0_init_39 wyint sp24 (by decide) (by decide) ?_
  show Ev _ _ _ _ 41 25 _ _ [(2, 19)] [(2, (24 : Int)), (2, (19 : Int))]
  refine ev_putrF (j := 4) dX0_init_41 cf_X0 wf_X0_24 sp19 (by decide) (by decide) rfl rfl rfl rfl (fun z => absurd z (by decide +kernel)) ?_
  show Ev _ _ _ _ 44 25 _ _ [(2, 19)] []
  refine ev_aload_n dX0_init_44 rfl (by decide) ?_
  show Ev _ _ _ _ 45 25 _ _ [(2, 19)] [(2, (19 : Int))]
  refine ev_bipush dX0_init_45 (by decide) (by decide) ?_
  show Ev _ _ _ _ 47 25 _ _ [(2, 19)] [(0, (10 : Int)), (2, (19 : Int))]
  refine ev_newi (N := 10) dX0_init_47 wyint sp25 (by decide) (by decide) ?_
  show Ev _ _ _ _ 49 26 _ _ [(2, 19)] [(2, (25 : Int)), (2, (19 : Int))]
  refine ev_putrF (j := 5) dX0_init_49 cf_X0 wf_X0_27 sp19 (by decide) (by decide) rfl rfl rfl rfl (fun z => absurd z (by decide +kernel)) ?_
  show Ev _ _ _ _ 52 26 _ _ [(2, 19)] []
  refine ev_aload_n dX0_init_52 rfl (by decide) ?_
  show Ev _ _ _ _ 53 26 _ _ [(2, 19)] [(2, (19 : Int))]
  refine ev_bipush dX0_init_53 (by decide) (by decide) ?_
  show Ev _ _ _ _ 55 26 _ _ [(2, 19)] [(0, (10 : Int)), (2, (19 : Int))]
  refine ev_newi (N := 10) dX0_init_55 wyint sp26 (by decide) (by decide) ?_
  show Ev _ _ _ _ 57 27 _ _ [(2, 19)] [(2, (26 : Int)), (2, (19 : Int))]
  refine ev_putrF (j := 6) dX0_init_57 cf_X0 wf_X0_30 sp19 (by decide) (by decide) rfl rfl rfl rfl (fun z => absurd z (by decide +kernel)) ?_
  show Ev _ _ _ _ 60 27 _ _ [(2, 19)] []
  refine ev_aload_n dX0_init_60 rfl (by decide) ?_
  show Ev _ _ _ _ 61 27 _ _ [(2, 19)] [(2, (19 : Int))]
  refine ev_bipush dX0_init_61 (by decide) (by decide) ?_
  show Ev _ _ _ _ 63 27 _ _ [(2, 19)] [(0, (6 : Int)), (2, (19 : Int))]
  refine ev_newi (N := 6) dX0_init_63 wyint sp27 (by decide) (by decide) ?_
  show Ev _ _ _ _ 65 28 _ _ [(2, 19)] [(2, (27 : Int)), (2, (19 : Int))]
  refine ev_putrF (j := 7) dX0_init_65 cf_X0 wf_X0_33 sp19 (by decide) (by decide) rfl rfl rfl rfl (fun z => absurd z (by decide +kernel)) ?_
  show Ev _ _ _ _ 68 28 _ _ [(2, 19)] []
  refine ev_aload_n dX0_init_68 rfl (by decide) ?_
  show Ev _ _ _ _ 69 28 _ _ [(2, 19)] [(2, (19 : Int))]
  refine ev_bipush dX0_init_69 (by decide) (by decide) ?_
  show Ev _ _ _ _ 71 28 _ _ [(2, 19)] [(0, (24 : Int)), (2, (19 : Int))]
  refine ev_putf (j := 11) (t := 0) dX0_init_71 cf_X0 wf_X0_36 sp19 (by decide) (by decide) rfl (by decide) (by decide) rfl (fun z => absurd z (by decide +kernel)) ?_
  show Ev _ _ _ _ 74 28 _ _ [(2, 19)] []
  refine ev_aload_n dX0_init_74 rfl (by decide) ?_
  show Ev _ _ _ _ 75 28 _ _ [(2, 19)] [(2, (19 : Int))]
  refine ev_iconst dX0_init_75 (by decide) ?_
  show Ev _ _ _ _ 76 28 _ _ [(2, 19)] [(0, (1 : Int)), (2, (19 : Int))]
  refine ev_putf (j := 12) (t := 0) dX0_init_76 cf_X0 wf_X0_40 sp19 (by decide) (by decide) rfl (by decide) (by decide) rfl (fun z => absurd z (by decide +kernel)) ?_
  show Ev _ _ _ _ 79 28 _ _ [(2, 19)] []
  refine ev_aload_n dX0_init_79 rfl (by decide) ?_
  show Ev _ _ _ _ 80 28 _ _ [(2, 19)] [(2, (19 : Int))]
  refine ev_iconst dX0_init_80 (by decide) ?_
  show Ev _ _ _ _ 81 28 _ _ [(2, 19)] [(0, (1 : Int)), (2, (19 : Int))]
  refine ev_putf (j := 13) (t := 0) dX0_init_81 cf_X0 wf_X0_43 sp19 (by decide) (by decide) rfl (by decide) (by decide) rfl (fun z => absurd z (by decide +kernel)) ?_
  show Ev _ _ _ _ 84 28 _ _ [(2, 19)] []
  exact ev_vret dX0_init_84 rfl rfl
def rc_X7_init_29 (ρ : Mem) : Mem := (mup ρ 28 0 29)
def sc_X7_init_29 (σ : Mem) : Mem := σ
set_option maxHeartbeats 4000000 in
set_option maxRecDepth 20000 in
theorem c_X7_init_29 (ρ σ : Mem) : Ms yX7_init M_X7_init 29 30 [(2, 28)] ρ σ (none, rc_X7_init_29 ρ, sc_X7_init_29 σ) := by
  refine Ms.of 0 (by decide +kernel) rfl (fun _ => rfl) (fun _ _ _ => trivial) rfl rfl ?_
  show Ev M_X7_init 29 30 _ 0 29 ρ σ [(2, 28)] []
  show Ev _ _ _ _ 0 29 _ _ [(2, 28)] []
  refine ev_aload_n dX7_init_0 rfl (by decide) ?_
  show Ev _ _ _ _ 1 29 _ _ [(2, 28)] [(2, (28 : Int))]
  refine ev_oinit dX7_init_1 wo_X7_3 wo_i wo_c (by decide) (by decide) (by decide) ?_
  show Ev _ _ _ _ 4 29 _ _ [(2, 28)] []
  refine ev_aload_n dX7_init_4 rfl (by decide) ?_
  show Ev _ _ _ _ 5 29 _ _ [(2, 28)] [(2, (28 : Int))]
  refine ev_sipush dX7_init_5 (by decide) (by decide) ?_
  show Ev _ _ _ _ 8 29 _ _ [(2, 28)] [(0, (250 : Int)), (2, (28 : Int))]
  refine ev_newi (N := 250) dX7_init_8 wyint sp29 (by decide) (by decide) ?_
  show Ev _ _ _ _ 10 30 _ _ [(2, 28)] [(2, (29 : Int)), (2, (28 : Int))]
  refine ev_putrF (j := 0) dX7_init_10 cf_X7 wf_X7_11 sp28 (by decide) (by decide) rfl rfl rfl rfl (fun z => absurd z (by decide +kernel)) ?_
  show Ev _ _ _ _ 13 30 _ _ [(2, 28)] []
  exact ev_vret dX7_init_13 rfl rfl
def rc_X6_init_31 (ρ : Mem) : Mem := (mup (mup (mup ρ 30 0 31) 30 1 32) 30 2 33)
def sc_X6_init_31 (σ : Mem) : Mem := (mup (mup (mup (mup (mup (mup (mup (mup σ 31 0 (-1)) 31 1 (-1)) 31 2 (-1)) 31 3 (-1)) 31 4 (-1)) 31 5 (-1)) 31 6 (-1)) 31 7 (-1))
set_option maxHeartbeats 4000000 in
set_option maxRecDepth 20000 in
theorem c_X6_init_31 (ρ σ : Mem) : Ms yX6_init M_X6_init 31 34 [(2, 30)] ρ σ (none, rc_X6_init_31 ρ, sc_X6_init_31 σ) := by
  refine Ms.of 0 (by decide +kernel) rfl (fun _ => rfl) (fun _ _ _ => trivial) rfl rfl ?_
  show Ev M_X6_init 31 34 _ 0 31 ρ σ [(2, 30)] []
  show Ev _ _ _ _ 0 31 _ _ [(2, 30)] []
  refine ev_aload_n dX6_init_0 rfl (by decide) ?_
  show Ev _ _ _ _ 1 31 _ _ [(2, 30)] [(2, (30 : Int))]
  refine ev_oinit dX6_init_1 wo_X6_3 wo_i wo_c (by decide) (by decide) (by decide) ?_
  show Ev _ _ _ _ 4 31 _ _ [(2, 30)] []
  refine ev_aload_n dX6_init_4 rfl (by decide) ?_
  show Ev _ _ _ _ 5 31 _ _ [(2, 30)] [(2, (30 : Int))]
  refine ev_bipush dX6_init_5 (by decide) (by decide) ?_
  show Ev _ _ _ _ 7 31 _ _ [(2, 30)] [(0, (8 : Int)), (2, (30 : Int))]
  refine ev_newi (N := 8) dX6_init_7 wyint sp31 (by decide) (by decide) ?_
  show Ev _ _ _ _ 9 32 _ _ [(2, 30)] [(2, (31 : Int)), (2, (30 : Int))]
  refine ev_dup dX6_init_9 (show (2 : Nat) ≠ 1 by decide) ?_
  show Ev _ _ _ _ 10 32 _ _ [(2, 30)] [(2, (31 : Int)), (2, (31 : Int)), (2, (30 : Int))]
  refine ev_iconst dX6_init_10 (by decide) ?_
  show Ev _ _ _ _ 11 32 _ _ [(2, 30)] [(0, (0 : Int)), (2, (31 : Int)), (2, (31 : Int)), (2, (30 : Int))]
  refine ev_iconst dX6_init_11 (by decide) ?_
  show Ev _ _ _ _ 12 32 _ _ [(2, 30)] [(0, (-1 : Int)), (0, (0 : Int)), (2, (31 : Int)), (2, (31 : Int)), (2, (30 : Int))]
  refine ev_iast (X := some ()) (q := ()) dX6_init_12 sp31 (by decide) (by decide) (chk_pos ⟨by decide, by decide⟩) (fun _ => ?_)
  show Ev _ _ _ _ 13 32 _ _ [(2, 30)] [(2, (31 : Int)), (2, (30 : Int))]
  refine ev_dup dX6_init_13 (show (2 : Nat) ≠ 1 by decide) ?_
  show Ev _ _ _ _ 14 32 _ _ [(2, 30)] [(2, (31 : Int)), (2, (31 : Int)), (2, (30 : Int))]
  refine ev_iconst dX6_init_14 (by decide) ?_
  show Ev _ _ _ _ 15 32 _ _ [(2, 30)] [(0, (1 : Int)), (2, (31 : Int)), (2, (31 : Int)), (2, (30 : Int))]
  refine ev_iconst dX6_init_15 (by decide) ?_
  show Ev _ _ _ _ 16 32 _ _ [(2, 30)] [(0, (-1 : Int)), (0, (1 : Int)), (2, (31 : Int)), (2, (31 : Int)), (2, (30 : Int))]
  refine ev_iast (X := some ()) (q := ()) dX6_init_16 sp31 (by decide) (by decide) (chk_pos ⟨by decide, by decide⟩) (fun _ => ?_)
  show Ev _ _ _ _ 17 32 _ _ [(2, 30)] [(2, (31 : Int)), (2, (30 : Int))]
  refine ev_dup dX6_init_17 (show (2 : Nat) ≠ 1 by decide) ?_
  show Ev _ _ _ _ 18 32 _ _ [(2, 30)] [(2, (31 : Int)), (2, (31 : Int)), (2, (30 : Int))]
  refine ev_iconst dX6_init_18 (by decide) ?_
  show Ev _ _ _ _ 19 32 _ _ [(2, 30)] [(0, (2 : Int)), (2, (31 : Int)), (2, (31 : Int)), (2, (30 : Int))]
  refine ev_iconst dX6_init_19 (by decide) ?_
  show Ev _ _ _ _ 20 32 _ _ [(2, 30)] [(0, (-1 : Int)), (0, (2 : Int)), (2, (31 : Int)), (2, (31 : Int)), (2, (30 : Int))]
  refine ev_iast (X := some ()) (q := ()) dX6_init_20 sp31 (by decide) (by decide) (chk_pos ⟨by decide, by decide⟩) (fun _ => ?_)
  show Ev _ _ _ _ 21 32 _ _ [(2, 30)] [(2, (31 : Int)), (2, (30 : Int))]
  refine ev_dup dX6_init_21 (show (2 : Nat) ≠ 1 by decide) ?_
  show Ev _ _ _ _ 22 32 _ _ [(2, 30)] [(2, (31 : Int)), (2, (31 : Int)), (2, (30 : Int))]
  refine ev_iconst dX6_init_22 (by decide) ?_
  show Ev _ _ _ _ 23 32 _ _ [(2, 30)] [(0, (3 : Int)), (2, (31 : Int)), (2, (31 : Int)), (2, (30 : Int))]
  refine ev_iconst dX6_init_23 (by decide) ?_
  show Ev _ _ _ _ 24 32 _ _ [(2, 30)] [(0, (-1 : Int)), (0, (3 : Int)), (2, (31 : Int)), (2, (31 : Int)), (2, (30 : Int))]
  refine ev_iast (X := some ()) (q := ()) dX6_init_24 sp31 (by decide) (by decide) (chk_pos ⟨by decide, by decide⟩) (fun _ => ?_)
  show Ev _ _ _ _ 25 32 _ _ [(2, 30)] [(2, (31 : Int)), (2, (30 : Int))]
  refine ev_dup dX6_init_25 (show (2 : Nat) ≠ 1 by decide) ?_
  show Ev _ _ _ _ 26 32 _ _ [(2, 30)] [(2, (31 : Int)), (2, (31 : Int)), (2, (30 : Int))]
  refine ev_iconst dX6_init_26 (by decide) ?_
  show Ev _ _ _ _ 27 32 _ _ [(2, 30)] [(0, (4 : Int)), (2, (31 : Int)), (2, (31 : Int)), (2, (30 : Int))]
  refine ev_iconst dX6_init_27 (by decide) ?_
  show Ev _ _ _ _ 28 32 _ _ [(2, 30)] [(0, (-1 : Int)), (0, (4 : Int)), (2, (31 : Int)), (2, (31 : Int)), (2, (30 : Int))]
  refine ev_iast (X := some ()) (q := ()) dX6_init_28 sp31 (by decide) (by decide) (chk_pos ⟨by decide, by decide⟩) (fun _ => ?_)
  show Ev _ _ _ _ 29 32 _ _ [(2, 30)] [(2, (31 : Int)), (2, (30 : Int))]
  refine ev_dup dX6_init_29 (show (2 : Nat) ≠ 1 by decide) ?_
  show Ev _ _ _ _ 30 32 _ _ [(2, 30)] [(2, (31 : Int)), (2, (31 : Int)), (2, (30 : Int))]
  refine ev_iconst dX6_init_30 (by decide) ?_
  show Ev _ _ _ _ 31 32 _ _ [(2, 30)] [(0, (5 : Int)), (2, (31 : Int)), (2, (31 : Int)), (2, (30 : Int))]
  refine ev_iconst dX6_init_31 (by decide) ?_
  show Ev _ _ _ _ 32 32 _ _ [(2, 30)] [(0, (-1 : Int)), (0, (5 : Int)), (2, (31 : Int)), (2, (31 : Int)), (2, (30 : Int))]
  refine ev_iast (X := some ()) (q := ()) dX6_init_32 sp31 (by decide) (by decide) (chk_pos ⟨by decide, by decide⟩) (fun _ => ?_)
  show Ev _ _ _ _ 33 32 _ _ [(2, 30)] [(2, (31 : Int)), (2, (30 : Int))]
  refine ev_dup dX6_init_33 (show (2 : Nat) ≠ 1 by decide) ?_
  show Ev _ _ _ _ 34 32 _ _ [(2, 30)] [(2, (31 : Int)), (2, (31 : Int)), (2, (30 : Int))]
  refine ev_bipush dX6_init_34 (by decide) (by decide) ?_
  show Ev _ _ _ _ 36 32 _ _ [(2, 30)] [(0, (6 : Int)), (2, (31 : Int)), (2, (31 : Int)), (2, (30 : Int))]
  refine ev_iconst dX6_init_36 (by decide) ?_
  show Ev _ _ _ _ 37 32 _ _ [(2, 30)] [(0, (-1 : Int)), (0, (6 : Int)), (2, (31 : Int)), (2, (31 : Int)), (2, (30 : Int))]
  refine ev_iast (X := some ()) (q := ()) dX6_init_37 sp31 (by decide) (by decide) (chk_pos ⟨by decide, by decide⟩) (fun _ => ?_)
  show Ev _ _ _ _ 38 32 _ _ [(2, 30)] [(2, (31 : Int)), (2, (30 : Int))]
  refine ev_dup dX6_init_38 (show (2 : Nat) ≠ 1 by decide) ?_
  show Ev _ _ _ _ 39 32 _ _ [(2, 30)] [(2, (31 : Int)), (2, (31 : Int)), (2, (30 : Int))]
  refine ev_bipush dX6_init_39 (by decide) (by decide) ?_
  show Ev _ _ _ _ 41 32 _ _ [(2, 30)] [(0, (7 : Int)), (2, (31 : Int)), (2, (31 : Int)), (2, (30 : Int))]
  refine ev_iconst dX6_init_41 (by decide) ?_
  show Ev _ _ _ _ 42 32 _ _ [(2, 30)] [(0, (-1 : Int)), (0, (7 : Int)), (2, (31 : Int)), (2, (31 : Int)), (2, (30 : Int))]
  refine ev_iast (X := some ()) (q := ()) dX6_init_42 sp31 (by decide) (by decide) (chk_pos ⟨by decide, by decide⟩) (fun _ => ?_)
  show Ev _ _ _ _ 43 32 _ _ [(2, 30)] [(2, (31 : Int)), (2, (30 : Int))]
  refine ev_putrF (j := 0) dX6_init_43 cf_X6 wf_X6_9 sp30 (by decide) (by decide) rfl rfl rfl rfl (fun z => absurd z (by decide +kernel)) ?_
  show Ev _ _ _ _ 46 32 _ _ [(2, 30)] []
  refine ev_aload_n dX6_init_46 rfl (by decide) ?_
  show Ev _ _ _ _ 47 32 _ _ [(2, 30)] [(2, (30 : Int))]
  refine ev_bipush dX6_init_47 (by decide) (by decide) ?_
  show Ev _ _ _ _ 49 32 _ _ [(2, 30)] [(0, (8 : Int)), (2, (30 : Int))]
  refine ev_newi (N := 8) dX6_init_49 wyint sp32 (by decide) (by decide) ?_
  show Ev _ _ _ _ 51 33 _ _ [(2, 30)] [(2, (32 : Int)), (2, (30 : Int))]
  refine ev_putrF (j := 1) dX6_init_51 cf_X6 wf_X6_15 sp30 (by decide) (by decide) rfl rfl rfl rfl (fun z => absurd z (by decide +kernel)) ?_
  show Ev _ _ _ _ 54 33 _ _ [(2, 30)] []
  refine ev_aload_n dX6_init_54 rfl (by decide) ?_
  show Ev _ _ _ _ 55 33 _ _ [(2, 30)] [(2, (30 : Int))]
  refine ev_sipush dX6_init_55 (by decide) (by decide) ?_
  show Ev _ _ _ _ 58 33 _ _ [(2, 30)] [(0, (320 : Int)), (2, (30 : Int))]
  refine ev_newl (N := 320) dX6_init_58 wylong sp33 (by decide) (by decide) ?_
  show Ev _ _ _ _ 60 34 _ _ [(2, 30)] [(2, (33 : Int)), (2, (30 : Int))]
  refine ev_putrF (j := 2) dX6_init_60 cf_X6 wf_X6_18 sp30 (by decide) (by decide) rfl rfl rfl rfl (fun z => absurd z (by decide +kernel)) ?_
  show Ev _ _ _ _ 63 34 _ _ [(2, 30)] []
  exact ev_vret dX6_init_63 rfl rfl
def rc_X3_init_37 (ρ : Mem) : Mem := (mup (mup (mup (mup (mup (mup ρ 36 0 37) 36 1 38) 36 2 39) 36 3 40) 36 4 41) 36 5 42)
def sc_X3_init_37 (σ : Mem) : Mem := σ
set_option maxHeartbeats 4000000 in
set_option maxRecDepth 20000 in
theorem c_X3_init_37 (ρ σ : Mem) : Ms yX3_init M_X3_init 37 43 [(2, 36)] ρ σ (none, rc_X3_init_37 ρ, sc_X3_init_37 σ) := by
  refine Ms.of 0 (by decide +kernel) rfl (fun _ => rfl) (fun _ _ _ => trivial) rfl rfl ?_
  show Ev M_X3_init 37 43 _ 0 37 ρ σ [(2, 36)] []
  show Ev _ _ _ _ 0 37 _ _ [(2, 36)] []
  refine ev_aload_n dX3_init_0 rfl (by decide) ?_
  show Ev _ _ _ _ 1 37 _ _ [(2, 36)] [(2, (36 : Int))]
  refine ev_oinit dX3_init_1 wo_X3_3 wo_i wo_c (by decide) (by decide) (by decide) ?_
  show Ev _ _ _ _ 4 37 _ _ [(2, 36)] []
  refine ev_aload_n dX3_init_4 rfl (by decide) ?_
  show Ev _ _ _ _ 5 37 _ _ [(2, 36)] [(2, (36 : Int))]
  refine ev_iconst dX3_init_5 (by decide) ?_
  show Ev _ _ _ _ 6 37 _ _ [(2, 36)] [(0, (4 : Int)), (2, (36 : Int))]
  refine ev_newi (N := 4) dX3_init_6 wyint sp37 (by decide) (by decide) ?_
  show Ev _ _ _ _ 8 38 _ _ [(2, 36)] [(2, (37 : Int)), (2, (36 : Int))]
  refine ev_putrF (j := 0) dX3_init_8 cf_X3 wf_X3_9 sp36 (by decide) (by decide) rfl rfl rfl rfl (fun z => absurd z (by decide +kernel)) ?_
  show Ev _ _ _ _ 11 38 _ _ [(2, 36)] []
  refine ev_aload_n dX3_init_11 rfl (by decide) ?_
  show Ev _ _ _ _ 12 38 _ _ [(2, 36)] [(2, (36 : Int))]
  refine ev_iconst dX3_init_12 (by decide) ?_
  show Ev _ _ _ _ 13 38 _ _ [(2, 36)] [(0, (4 : Int)), (2, (36 : Int))]
  refine ev_newi (N := 4) dX3_init_13 wyint sp38 (by decide) (by decide) ?_
  show Ev _ _ _ _ 15 39 _ _ [(2, 36)] [(2, (38 : Int)), (2, (36 : Int))]
  refine ev_putrF (j := 1) dX3_init_15 cf_X3 wf_X3_15 sp36 (by decide) (by decide) rfl rfl rfl rfl (fun z => absurd z (by decide +kernel)) ?_
  show Ev _ _ _ _ 18 39 _ _ [(2, 36)] []
  refine ev_aload_n dX3_init_18 rfl (by decide) ?_
  show Ev _ _ _ _ 19 39 _ _ [(2, 36)] [(2, (36 : Int))]
  refine ev_iconst dX3_init_19 (by decide) ?_
  show Ev _ _ _ _ 20 39 _ _ [(2, 36)] [(0, (4 : Int)), (2, (36 : Int))]
  refine ev_newi (N := 4) dX3_init_20 wyint sp39 (by decide) (by decide) ?_
  show Ev _ _ _ _ 22 40 _ _ [(2, 36)] [(2, (39 : Int)), (2, (36 : Int))]
  refine ev_putrF (j := 2) dX3_init_22 cf_X3 wf_X3_18 sp36 (by decide) (by decide) rfl rfl rfl rfl (fun z => absurd z (by decide +kernel)) ?_
  show Ev _ _ _ _ 25 40 _ _ [(2, 36)] []
  refine ev_aload_n dX3_init_25 rfl (by decide) ?_
  show Ev _ _ _ _ 26 40 _ _ [(2, 36)] [(2, (36 : Int))]
  refine ev_iconst dX3_init_26 (by decide) ?_
  show Ev _ _ _ _ 27 40 _ _ [(2, 36)] [(0, (4 : Int)), (2, (36 : Int))]
  refine ev_newi (N := 4) dX3_init_27 wyint sp40 (by decide) (by decide) ?_
  show Ev _ _ _ _ 29 41 _ _ [(2, 36)] [(2, (40 : Int)), (2, (36 : Int))]
  refine ev_putrF (j := 3) dX3_init_29 cf_X3 wf_X3_21 sp36 (by decide) (by decide) rfl rfl rfl rfl (fun z => absurd z (by decide +kernel)) ?_
  show Ev _ _ _ _ 32 41 _ _ [(2, 36)] []
  refine ev_aload_n dX3_init_32 rfl (by decide) ?_
  show Ev _ _ _ _ 33 41 _ _ [(2, 36)] [(2, (36 : Int))]
  refine ev_iconst dX3_init_33 (by decide) ?_
  show Ev _ _ _ _ 34 41 _ _ [(2, 36)] [(0, (4 : Int)), (2, (36 : Int))]
  refine ev_newi (N := 4) dX3_init_34 wyint sp41 (by decide) (by decide) ?_
  show Ev _ _ _ _ 36 42 _ _ [(2, 36)] [(2, (41 : Int)), (2, (36 : Int))]
  refine ev_putrF (j := 4) dX3_init_36 cf_X3 wf_X3_24 sp36 (by decide) (by decide) rfl rfl rfl rfl (fun z => absurd z (by decide +kernel)) ?_
  show Ev _ _ _ _ 39 42 _ _ [(2, 36)] []
  refine ev_aload_n dX3_init_39 rfl (by decide) ?_
  show Ev _ _ _ _ 40 42 _ _ [(2, 36)] [(2, (36 : Int))]
  refine ev_iconst dX3_init_40 (by decide) ?_
  show Ev _ _ _ _ 41 42 _ _ [(2, 36)] [(0, (4 : Int)), (2, (36 : Int))]
  refine ev_newi (N := 4) dX3_init_41 wyint sp42 (by decide) (by decide) ?_
  show Ev _ _ _ _ 43 43 _ _ [(2, 36)] [(2, (42 : Int)), (2, (36 : Int))]
  refine ev_putrF (j := 5) dX3_init_43 cf_X3 wf_X3_27 sp36 (by decide) (by decide) rfl rfl rfl rfl (fun z => absurd z (by decide +kernel)) ?_
  show Ev _ _ _ _ 46 43 _ _ [(2, 36)] []
  exact ev_vret dX3_init_46 rfl rfl
def rc_X4_init_36 (ρ : Mem) : Mem := (mup (rc_X3_init_37 ρ) 35 0 36)
def sc_X4_init_36 (σ : Mem) : Mem := (sc_X3_init_37 σ)
set_option maxHeartbeats 4000000 in
set_option maxRecDepth 20000 in
theorem c_X4_init_36 (ρ σ : Mem) : Ms yX4_init M_X4_init 36 43 [(2, 35)] ρ σ (none, rc_X4_init_36 ρ, sc_X4_init_36 σ) := by
  refine Ms.of 0 (by decide +kernel) rfl (fun _ => rfl) (fun _ _ _ => trivial) rfl rfl ?_
  show Ev M_X4_init 36 43 _ 0 36 ρ σ [(2, 35)] []
  show Ev _ _ _ _ 0 36 _ _ [(2, 35)] []
  refine ev_aload_n dX4_init_0 rfl (by decide) ?_
  show Ev _ _ _ _ 1 36 _ _ [(2, 35)] [(2, (35 : Int))]
  refine ev_oinit dX4_init_1 wo_X4_3 wo_i wo_c (by decide) (by decide) (by decide) ?_
  show Ev _ _ _ _ 4 36 _ _ [(2, 35)] []
  refine ev_aload_n dX4_init_4 rfl (by decide) ?_
  show Ev _ _ _ _ 5 36 _ _ [(2, 35)] [(2, (35 : Int))]
  refine ev_new dX4_init_5 cf_X3 wk_X4_9 wi_X3 wz_X3 sp36 (by decide) ?_
  show Ev _ _ _ _ 8 37 _ _ [(2, 35)] [(2, (36 : Int)), (2, (35 : Int))]
  refine ev_dup dX4_init_8 (show (2 : Nat) ≠ 1 by decide) ?_
  show Ev _ _ _ _ 9 37 _ _ [(2, 35)] [(2, (36 : Int)), (2, (36 : Int)), (2, (35 : Int))]
  refine ev_invIN (k := 36) (av := []) (st := [(2, (36 : Int)), (2, (35 : Int))]) dX4_init_9 ml_X4_11 mi_X3_init rfl (by decide) rfl rfl ⟨Nat.le_of_ble_eq_true rfl, Nat.le_of_ble_eq_true rfl⟩ (Nat.le_of_ble_eq_true rfl) (c_X3_init_37 _ _) ⟨by decide, by decide⟩ ?_
  show Ev _ _ _ _ 12 43 (rc_X3_init_37 _) (sc_X3_init_37 _) _ _
  show Ev _ _ _ _ 12 43 _ _ [(2, 35)] [(2, (36 : Int)), (2, (35 : Int))]
  refine ev_putrF (j := 0) dX4_init_12 cf_X4 wf_X4_12 sp35 (by decide) (by decide) rfl rfl rfl rfl (fun z => absurd z (by decide +kernel)) ?_
  show Ev _ _ _ _ 15 43 _ _ [(2, 35)] []
  exact ev_vret dX4_init_15 rfl rfl
def rc_X3_init_46 (ρ : Mem) : Mem := (mup (mup (mup (mup (mup (mup ρ 45 0 46) 45 1 47) 45 2 48) 45 3 49) 45 4 50) 45 5 51)
def sc_X3_init_46 (σ : Mem) : Mem := σ
set_option maxHeartbeats 4000000 in
set_option maxRecDepth 20000 in
theorem c_X3_init_46 (ρ σ : Mem) : Ms yX3_init M_X3_init 46 52 [(2, 45)] ρ σ (none, rc_X3_init_46 ρ, sc_X3_init_46 σ) := by
  refine Ms.of 0 (by decide +kernel) rfl (fun _ => rfl) (fun _ _ _ => trivial) rfl rfl ?_
  show Ev M_X3_init 46 52 _ 0 46 ρ σ [(2, 45)] []
  show Ev _ _ _ _ 0 46 _ _ [(2, 45)] []
  refine ev_aload_n dX3_init_0 rfl (by decide) ?_
  show Ev _ _ _ _ 1 46 _ _ [(2, 45)] [(2, (45 : Int))]
  refine ev_oinit dX3_init_1 wo_X3_3 wo_i wo_c (by decide) (by decide) (by decide) ?_
  show Ev _ _ _ _ 4 46 _ _ [(2, 45)] []
  refine ev_aload_n dX3_init_4 rfl (by decide) ?_
  show Ev _ _ _ _ 5 46 _ _ [(2, 45)] [(2, (45 : Int))]
  refine ev_iconst dX3_init_5 (by decide) ?_
  show Ev _ _ _ _ 6 46 _ _ [(2, 45)] [(0, (4 : Int)), (2, (45 : Int))]
  refine ev_newi (N := 4) dX3_init_6 wyint sp46 (by decide) (by decide) ?_
  show Ev _ _ _ _ 8 47 _ _ [(2, 45)] [(2, (46 : Int)), (2, (45 : Int))]
  refine ev_putrF (j := 0) dX3_init_8 cf_X3 wf_X3_9 sp45 (by decide) (by decide) rfl rfl rfl rfl (fun z => absurd z (by decide +kernel)) ?_
  show Ev _ _ _ _ 11 47 _ _ [(2, 45)] []
  refine ev_aload_n dX3_init_11 rfl (by decide) ?_
  show Ev _ _ _ _ 12 47 _ _ [(2, 45)] [(2, (45 : Int))]
  refine ev_iconst dX3_init_12 (by decide) ?_
  show Ev _ _ _ _ 13 47 _ _ [(2, 45)] [(0, (4 : Int)), (2, (45 : Int))]
  refine ev_newi (N := 4) dX3_init_13 wyint sp47 (by decide) (by decide) ?_
  show Ev _ _ _ _ 15 48 _ _ [(2, 45)] [(2, (47 : Int)), (2, (45 : Int))]
  refine ev_putrF (j := 1) dX3_init_15 cf_X3 wf_X3_15 sp45 (by decide) (by decide) rfl rfl rfl rfl (fun z => absurd z (by decide +kernel)) ?_
  show Ev _ _ _ _ 18 48 _ _ [(2, 45)] []
  refine ev_aload_n dX3_init_18 rfl (by decide) ?_
  show Ev _ _ _ _ 19 48 _ _ [(2, 45)] [(2, (45 : Int))]
  refine ev_iconst dX3_init_19 (by decide) ?_
  show Ev _ _ _ _ 20 48 _ _ [(2, 45)] [(0, (4 : Int)), (2, (45 : Int))]
  refine ev_newi (N := 4) dX3_init_20 wyint sp48 (by decide) (by decide) ?_
  show Ev _ _ _ _ 22 49 _ _ [(2, 45)] [(2, (48 : Int)), (2, (45 : Int))]
  refine ev_putrF (j := 2) dX3_init_22 cf_X3 wf_X3_18 sp45 (by decide) (by decide) rfl rfl rfl rfl (fun z => absurd z (by decide +kernel)) ?_
  show Ev _ _ _ _ 25 49 _ _ [(2, 45)] []
  refine ev_aload_n dX3_init_25 rfl (by decide) ?_
  show Ev _ _ _ _ 26 49 _ _ [(2, 45)] [(2, (45 : Int))]
  refine ev_iconst dX3_init_26 (by decide) ?_
  show Ev _ _ _ _ 27 49 _ _ [(2, 45)] [(0, (4 : Int)), (2, (45 : Int))]
  refine ev_newi (N := 4) dX3_init_27 wyint sp49 (by decide) (by decide) ?_
  show Ev _ _ _ _ 29 50 _ _ [(2, 45)] [(2, (49 : Int)), (2, (45 : Int))]
  refine ev_putrF (j := 3) dX3_init_29 cf_X3 wf_X3_21 sp45 (by decide) (by decide) rfl rfl rfl rfl (fun z => absurd z (by decide +kernel)) ?_
  show Ev _ _ _ _ 32 50 _ _ [(2, 45)] []
  refine ev_aload_n dX3_init_32 rfl (by decide) ?_
  show Ev _ _ _ _ 33 50 _ _ [(2, 45)] [(2, (45 : Int))]
  refine ev_iconst dX3_init_33 (by decide) ?_
  show Ev _ _ _ _ 34 50 _ _ [(2, 45)] [(0, (4 : Int)), (2, (45 : Int))]
  refine ev_newi (N := 4) dX3_init_34 wyint sp50 (by decide) (by decide) ?_
  show Ev _ _ _ _ 36 51 _ _ [(2, 45)] [(2, (50 : Int)), (2, (45 : Int))]
  refine ev_putrF (j := 4) dX3_init_36 cf_X3 wf_X3_24 sp45 (by decide) (by decide) rfl rfl rfl rfl (fun z => absurd z (by decide +kernel)) ?_
  show Ev _ _ _ _ 39 51 _ _ [(2, 45)] []
  refine ev_aload_n dX3_init_39 rfl (by decide) ?_
  show Ev _ _ _ _ 40 51 _ _ [(2, 45)] [(2, (45 : Int))]
  refine ev_iconst dX3_init_40 (by decide) ?_
  show Ev _ _ _ _ 41 51 _ _ [(2, 45)] [(0, (4 : Int)), (2, (45 : Int))]
  refine ev_newi (N := 4) dX3_init_41 wyint sp51 (by decide) (by decide) ?_
  show Ev _ _ _ _ 43 52 _ _ [(2, 45)] [(2, (51 : Int)), (2, (45 : Int))]
  refine ev_putrF (j := 5) dX3_init_43 cf_X3 wf_X3_27 sp45 (by decide) (by decide) rfl rfl rfl rfl (fun z => absurd z (by decide +kernel)) ?_
  show Ev _ _ _ _ 46 52 _ _ [(2, 45)] []
  exact ev_vret dX3_init_46 rfl rfl
def rc_X4_init_45 (ρ : Mem) : Mem := (mup (rc_X3_init_46 ρ) 44 0 45)
def sc_X4_init_45 (σ : Mem) : Mem := (sc_X3_init_46 σ)
set_option maxHeartbeats 4000000 in
set_option maxRecDepth 20000 in
theorem c_X4_init_45 (ρ σ : Mem) : Ms yX4_init M_X4_init 45 52 [(2, 44)] ρ σ (none, rc_X4_init_45 ρ, sc_X4_init_45 σ) := by
  refine Ms.of 0 (by decide +kernel) rfl (fun _ => rfl) (fun _ _ _ => trivial) rfl rfl ?_
  show Ev M_X4_init 45 52 _ 0 45 ρ σ [(2, 44)] []
  show Ev _ _ _ _ 0 45 _ _ [(2, 44)] []
  refine ev_aload_n dX4_init_0 rfl (by decide) ?_
  show Ev _ _ _ _ 1 45 _ _ [(2, 44)] [(2, (44 : Int))]
  refine ev_oinit dX4_init_1 wo_X4_3 wo_i wo_c (by decide) (by decide) (by decide) ?_
  show Ev _ _ _ _ 4 45 _ _ [(2, 44)] []
  refine ev_aload_n dX4_init_4 rfl (by decide) ?_
  show Ev _ _ _ _ 5 45 _ _ [(2, 44)] [(2, (44 : Int))]
  refine ev_new dX4_init_5 cf_X3 wk_X4_9 wi_X3 wz_X3 sp45 (by decide) ?_
  show Ev _ _ _ _ 8 46 _ _ [(2, 44)] [(2, (45 : Int)), (2, (44 : Int))]
  refine ev_dup dX4_init_8 (show (2 : Nat) ≠ 1 by decide) ?_
  show Ev _ _ _ _ 9 46 _ _ [(2, 44)] [(2, (45 : Int)), (2, (45 : Int)), (2, (44 : Int))]
  refine ev_invIN (k := 45) (av := []) (st := [(2, (45 : Int)), (2, (44 : Int))]) dX4_init_9 ml_X4_11 mi_X3_init rfl (by decide) rfl rfl ⟨Nat.le_of_ble_eq_true rfl, Nat.le_of_ble_eq_true rfl⟩ (Nat.le_of_ble_eq_true rfl) (c_X3_init_46 _ _) ⟨by decide, by decide⟩ ?_
  show Ev _ _ _ _ 12 52 (rc_X3_init_46 _) (sc_X3_init_46 _) _ _
  show Ev _ _ _ _ 12 52 _ _ [(2, 44)] [(2, (45 : Int)), (2, (44 : Int))]
  refine ev_putrF (j := 0) dX4_init_12 cf_X4 wf_X4_12 sp44 (by decide) (by decide) rfl rfl rfl rfl (fun z => absurd z (by decide +kernel)) ?_
  show Ev _ _ _ _ 15 52 _ _ [(2, 44)] []
  exact ev_vret dX4_init_15 rfl rfl
def rc_X8_init_55 (ρ : Mem) : Mem := (mup (mup (mup (mup (mup (mup (mup (mup (mup ρ 54 0 55) 54 1 56) 54 2 57) 54 3 58) 54 4 59) 54 5 60) 54 6 61) 54 7 62) 54 8 63)
def sc_X8_init_55 (σ : Mem) : Mem := σ
set_option maxHeartbeats 4000000 in
set_option maxRecDepth 20000 in
theorem c_X8_init_55 (ρ σ : Mem) : Ms yX8_init M_X8_init 55 64 [(2, 54)] ρ σ (none, rc_X8_init_55 ρ, sc_X8_init_55 σ) := by
  refine Ms.of 0 (by decide +kernel) rfl (fun _ => rfl) (fun _ _ _ => trivial) rfl rfl ?_
  show Ev M_X8_init 55 64 _ 0 55 ρ σ [(2, 54)] []
  show Ev _ _ _ _ 0 55 _ _ [(2, 54)] []
  refine ev_aload_n dX8_init_0 rfl (by decide) ?_
  show Ev _ _ _ _ 1 55 _ _ [(2, 54)] [(2, (54 : Int))]
  refine ev_oinit dX8_init_1 wo_X8_3 wo_i wo_c (by decide) (by decide) (by decide) ?_
  show Ev _ _ _ _ 4 55 _ _ [(2, 54)] []
  refine ev_aload_n dX8_init_4 rfl (by decide) ?_
  show Ev _ _ _ _ 5 55 _ _ [(2, 54)] [(2, (54 : Int))]
  refine ev_iconst dX8_init_5 (by decide) ?_
  show Ev _ _ _ _ 6 55 _ _ [(2, 54)] [(0, (5 : Int)), (2, (54 : Int))]
  refine ev_newz (N := 5) dX8_init_6 wyboolean sp55 (by decide) (by decide) ?_
  show Ev _ _ _ _ 8 56 _ _ [(2, 54)] [(2, (55 : Int)), (2, (54 : Int))]
  refine ev_putrF (j := 0) dX8_init_8 cf_X8 wf_X8_9 sp54 (by decide) (by decide) rfl rfl rfl rfl (fun z => absurd z (by decide +kernel)) ?_
  show Ev _ _ _ _ 11 56 _ _ [(2, 54)] []
  refine ev_aload_n dX8_init_11 rfl (by decide) ?_
  show Ev _ _ _ _ 12 56 _ _ [(2, 54)] [(2, (54 : Int))]
  refine ev_iconst dX8_init_12 (by decide) ?_
  show Ev _ _ _ _ 13 56 _ _ [(2, 54)] [(0, (5 : Int)), (2, (54 : Int))]
  refine ev_newi (N := 5) dX8_init_13 wyint sp56 (by decide) (by decide) ?_
  show Ev _ _ _ _ 15 57 _ _ [(2, 54)] [(2, (56 : Int)), (2, (54 : Int))]
  refine ev_putrF (j := 1) dX8_init_15 cf_X8 wf_X8_15 sp54 (by decide) (by decide) rfl rfl rfl rfl (fun z => absurd z (by decide +kernel)) ?_
  show Ev _ _ _ _ 18 57 _ _ [(2, 54)] []
  refine ev_aload_n dX8_init_18 rfl (by decide) ?_
  show Ev _ _ _ _ 19 57 _ _ [(2, 54)] [(2, (54 : Int))]
  refine ev_iconst dX8_init_19 (by decide) ?_
  show Ev _ _ _ _ 20 57 _ _ [(2, 54)] [(0, (5 : Int)), (2, (54 : Int))]
  refine ev_newi (N := 5) dX8_init_20 wyint sp57 (by decide) (by decide) ?_
  show Ev _ _ _ _ 22 58 _ _ [(2, 54)] [(2, (57 : Int)), (2, (54 : Int))]
  refine ev_putrF (j := 2) dX8_init_22 cf_X8 wf_X8_19 sp54 (by decide) (by decide) rfl rfl rfl rfl (fun z => absurd z (by decide +kernel)) ?_
  show Ev _ _ _ _ 25 58 _ _ [(2, 54)] []
  refine ev_aload_n dX8_init_25 rfl (by decide) ?_
  show Ev _ _ _ _ 26 58 _ _ [(2, 54)] [(2, (54 : Int))]
  refine ev_iconst dX8_init_26 (by decide) ?_
  show Ev _ _ _ _ 27 58 _ _ [(2, 54)] [(0, (5 : Int)), (2, (54 : Int))]
  refine ev_newi (N := 5) dX8_init_27 wyint sp58 (by decide) (by decide) ?_
  show Ev _ _ _ _ 29 59 _ _ [(2, 54)] [(2, (58 : Int)), (2, (54 : Int))]
  refine ev_putrF (j := 3) dX8_init_29 cf_X8 wf_X8_22 sp54 (by decide) (by decide) rfl rfl rfl rfl (fun z => absurd z (by decide +kernel)) ?_
  show Ev _ _ _ _ 32 59 _ _ [(2, 54)] []
  refine ev_aload_n dX8_init_32 rfl (by decide) ?_
  show Ev _ _ _ _ 33 59 _ _ [(2, 54)] [(2, (54 : Int))]
  refine ev_iconst dX8_init_33 (by decide) ?_
  show Ev _ _ _ _ 34 59 _ _ [(2, 54)] [(0, (5 : Int)), (2, (54 : Int))]
  refine ev_newi (N := 5) dX8_init_34 wyint sp59 (by decide) (by decide) ?_
  show Ev _ _ _ _ 36 60 _ _ [(2, 54)] [(2, (59 : Int)), (2, (54 : Int))]
  refine ev_putrF (j := 4) dX8_init_36 cf_X8 wf_X8_25 sp54 (by decide) (by decide) rfl rfl rfl rfl (fun z => absurd z (by decide +kernel)) ?_
  show Ev _ _ _ _ 39 60 _ _ [(2, 54)] []
  refine ev_aload_n dX8_init_39 rfl (by decide) ?_
  show Ev _ _ _ _ 40 60 _ _ [(2, 54)] [(2, (54 : Int))]
  refine ev_iconst dX8_init_40 (by decide) ?_
  show Ev _ _ _ _ 41 60 _ _ [(2, 54)] [(0, (5 : Int)), (2, (54 : Int))]
  refine ev_newl (N := 5) dX8_init_41 wylong sp60 (by decide) (by decide) ?_
  show Ev _ _ _ _ 43 61 _ _ [(2, 54)] [(2, (60 : Int)), (2, (54 : Int))]
  refine ev_putrF (j := 5) dX8_init_43 cf_X8 wf_X8_28 sp54 (by decide) (by decide) rfl rfl rfl rfl (fun z => absurd z (by decide +kernel)) ?_
  show Ev _ _ _ _ 46 61 _ _ [(2, 54)] []
  refine ev_aload_n dX8_init_46 rfl (by decide) ?_
  show Ev _ _ _ _ 47 61 _ _ [(2, 54)] [(2, (54 : Int))]
  refine ev_bipush dX8_init_47 (by decide) (by decide) ?_
  show Ev _ _ _ _ 49 61 _ _ [(2, 54)] [(0, (20 : Int)), (2, (54 : Int))]
  refine ev_newi (N := 20) dX8_init_49 wyint sp61 (by decide) (by decide) ?_
  show Ev _ _ _ _ 51 62 _ _ [(2, 54)] [(2, (61 : Int)), (2, (54 : Int))]
  refine ev_putrF (j := 6) dX8_init_51 cf_X8 wf_X8_32 sp54 (by decide) (by decide) rfl rfl rfl rfl (fun z => absurd z (by decide +kernel)) ?_
  show Ev _ _ _ _ 54 62 _ _ [(2, 54)] []
  refine ev_aload_n dX8_init_54 rfl (by decide) ?_
  show Ev _ _ _ _ 55 62 _ _ [(2, 54)] [(2, (54 : Int))]
  refine ev_bipush dX8_init_55 (by decide) (by decide) ?_
  show Ev _ _ _ _ 57 62 _ _ [(2, 54)] [(0, (20 : Int)), (2, (54 : Int))]
  refine ev_newi (N := 20) dX8_init_57 wyint sp62 (by decide) (by decide) ?_
  show Ev _ _ _ _ 59 63 _ _ [(2, 54)] [(2, (62 : Int)), (2, (54 : Int))]
  refine ev_putrF (j := 7) dX8_init_59 cf_X8 wf_X8_35 sp54 (by decide) (by decide) rfl rfl rfl rfl (fun z => absurd z (by decide +kernel)) ?_
  show Ev _ _ _ _ 62 63 _ _ [(2, 54)] []
  refine ev_aload_n dX8_init_62 rfl (by decide) ?_
  show Ev _ _ _ _ 63 63 _ _ [(2, 54)] [(2, (54 : Int))]
  refine ev_bipush dX8_init_63 (by decide) (by decide) ?_
  show Ev _ _ _ _ 65 63 _ _ [(2, 54)] [(0, (20 : Int)), (2, (54 : Int))]
  refine ev_newi (N := 20) dX8_init_65 wyint sp63 (by decide) (by decide) ?_
  show Ev _ _ _ _ 67 64 _ _ [(2, 54)] [(2, (63 : Int)), (2, (54 : Int))]
  refine ev_putrF (j := 8) dX8_init_67 cf_X8 wf_X8_38 sp54 (by decide) (by decide) rfl rfl rfl rfl (fun z => absurd z (by decide +kernel)) ?_
  show Ev _ _ _ _ 70 64 _ _ [(2, 54)] []
  exact ev_vret dX8_init_70 rfl rfl
def rc_X8_init_65 (ρ : Mem) : Mem := (mup (mup (mup (mup (mup (mup (mup (mup (mup ρ 64 0 65) 64 1 66) 64 2 67) 64 3 68) 64 4 69) 64 5 70) 64 6 71) 64 7 72) 64 8 73)
def sc_X8_init_65 (σ : Mem) : Mem := σ
set_option maxHeartbeats 4000000 in
set_option maxRecDepth 20000 in
theorem c_X8_init_65 (ρ σ : Mem) : Ms yX8_init M_X8_init 65 74 [(2, 64)] ρ σ (none, rc_X8_init_65 ρ, sc_X8_init_65 σ) := by
  refine Ms.of 0 (by decide +kernel) rfl (fun _ => rfl) (fun _ _ _ => trivial) rfl rfl ?_
  show Ev M_X8_init 65 74 _ 0 65 ρ σ [(2, 64)] []
  show Ev _ _ _ _ 0 65 _ _ [(2, 64)] []
  refine ev_aload_n dX8_init_0 rfl (by decide) ?_
  show Ev _ _ _ _ 1 65 _ _ [(2, 64)] [(2, (64 : Int))]
  refine ev_oinit dX8_init_1 wo_X8_3 wo_i wo_c (by decide) (by decide) (by decide) ?_
  show Ev _ _ _ _ 4 65 _ _ [(2, 64)] []
  refine ev_aload_n dX8_init_4 rfl (by decide) ?_
  show Ev _ _ _ _ 5 65 _ _ [(2, 64)] [(2, (64 : Int))]
  refine ev_iconst dX8_init_5 (by decide) ?_
  show Ev _ _ _ _ 6 65 _ _ [(2, 64)] [(0, (5 : Int)), (2, (64 : Int))]
  refine ev_newz (N := 5) dX8_init_6 wyboolean sp65 (by decide) (by decide) ?_
  show Ev _ _ _ _ 8 66 _ _ [(2, 64)] [(2, (65 : Int)), (2, (64 : Int))]
  refine ev_putrF (j := 0) dX8_init_8 cf_X8 wf_X8_9 sp64 (by decide) (by decide) rfl rfl rfl rfl (fun z => absurd z (by decide +kernel)) ?_
  show Ev _ _ _ _ 11 66 _ _ [(2, 64)] []
  refine ev_aload_n dX8_init_11 rfl (by decide) ?_
  show Ev _ _ _ _ 12 66 _ _ [(2, 64)] [(2, (64 : Int))]
  refine ev_iconst dX8_init_12 (by decide) ?_
  show Ev _ _ _ _ 13 66 _ _ [(2, 64)] [(0, (5 : Int)), (2, (64 : Int))]
  refine ev_newi (N := 5) dX8_init_13 wyint sp66 (by decide) (by decide) ?_
  show Ev _ _ _ _ 15 67 _ _ [(2, 64)] [(2, (66 : Int)), (2, (64 : Int))]
  refine ev_putrF (j := 1) dX8_init_15 cf_X8 wf_X8_15 sp64 (by decide) (by decide) rfl rfl rfl rfl (fun z => absurd z (by decide +kernel)) ?_
  show Ev _ _ _ _ 18 67 _ _ [(2, 64)] []
  refine ev_aload_n dX8_init_18 rfl (by decide) ?_
  show Ev _ _ _ _ 19 67 _ _ [(2, 64)] [(2, (64 : Int))]
  refine ev_iconst dX8_init_19 (by decide) ?_
  show Ev _ _ _ _ 20 67 _ _ [(2, 64)] [(0, (5 : Int)), (2, (64 : Int))]
  refine ev_newi (N := 5) dX8_init_20 wyint sp67 (by decide) (by decide) ?_
  show Ev _ _ _ _ 22 68 _ _ [(2, 64)] [(2, (67 : Int)), (2, (64 : Int))]
  refine ev_putrF (j := 2) dX8_init_22 cf_X8 wf_X8_19 sp64 (by decide) (by decide) rfl rfl rfl rfl (fun z => absurd z (by decide +kernel)) ?_
  show Ev _ _ _ _ 25 68 _ _ [(2, 64)] []
  refine ev_aload_n dX8_init_25 rfl (by decide) ?_
  show Ev _ _ _ _ 26 68 _ _ [(2, 64)] [(2, (64 : Int))]
  refine ev_iconst dX8_init_26 (by decide) ?_
  show Ev _ _ _ _ 27 68 _ _ [(2, 64)] [(0, (5 : Int)), (2, (64 : Int))]
  refine ev_newi (N := 5) dX8_init_27 wyint sp68 (by decide) (by decide) ?_
  show Ev _ _ _ _ 29 69 _ _ [(2, 64)] [(2, (68 : Int)), (2, (64 : Int))]
  refine ev_putrF (j := 3) dX8_init_29 cf_X8 wf_X8_22 sp64 (by decide) (by decide) rfl rfl rfl rfl (fun z => absurd z (by decide +kernel)) ?_
  show Ev _ _ _ _ 32 69 _ _ [(2, 64)] []
  refine ev_aload_n dX8_init_32 rfl (by decide) ?_
  show Ev _ _ _ _ 33 69 _ _ [(2, 64)] [(2, (64 : Int))]
  refine ev_iconst dX8_init_33 (by decide) ?_
  show Ev _ _ _ _ 34 69 _ _ [(2, 64)] [(0, (5 : Int)), (2, (64 : Int))]
  refine ev_newi (N := 5) dX8_init_34 wyint sp69 (by decide) (by decide) ?_
  show Ev _ _ _ _ 36 70 _ _ [(2, 64)] [(2, (69 : Int)), (2, (64 : Int))]
  refine ev_putrF (j := 4) dX8_init_36 cf_X8 wf_X8_25 sp64 (by decide) (by decide) rfl rfl rfl rfl (fun z => absurd z (by decide +kernel)) ?_
  show Ev _ _ _ _ 39 70 _ _ [(2, 64)] []
  refine ev_aload_n dX8_init_39 rfl (by decide) ?_
  show Ev _ _ _ _ 40 70 _ _ [(2, 64)] [(2, (64 : Int))]
  refine ev_iconst dX8_init_40 (by decide) ?_
  show Ev _ _ _ _ 41 70 _ _ [(2, 64)] [(0, (5 : Int)), (2, (64 : Int))]
  refine ev_newl (N := 5) dX8_init_41 wylong sp70 (by decide) (by decide) ?_
  show Ev _ _ _ _ 43 71 _ _ [(2, 64)] [(2, (70 : Int)), (2, (64 : Int))]
  refine ev_putrF (j := 5) dX8_init_43 cf_X8 wf_X8_28 sp64 (by decide) (by decide) rfl rfl rfl rfl (fun z => absurd z (by decide +kernel)) ?_
  show Ev _ _ _ _ 46 71 _ _ [(2, 64)] []
  refine ev_aload_n dX8_init_46 rfl (by decide) ?_
  show Ev _ _ _ _ 47 71 _ _ [(2, 64)] [(2, (64 : Int))]
  refine ev_bipush dX8_init_47 (by decide) (by decide) ?_
  show Ev _ _ _ _ 49 71 _ _ [(2, 64)] [(0, (20 : Int)), (2, (64 : Int))]
  refine ev_newi (N := 20) dX8_init_49 wyint sp71 (by decide) (by decide) ?_
  show Ev _ _ _ _ 51 72 _ _ [(2, 64)] [(2, (71 : Int)), (2, (64 : Int))]
  refine ev_putrF (j := 6) dX8_init_51 cf_X8 wf_X8_32 sp64 (by decide) (by decide) rfl rfl rfl rfl (fun z => absurd z (by decide +kernel)) ?_
  show Ev _ _ _ _ 54 72 _ _ [(2, 64)] []
  refine ev_aload_n dX8_init_54 rfl (by decide) ?_
  show Ev _ _ _ _ 55 72 _ _ [(2, 64)] [(2, (64 : Int))]
  refine ev_bipush dX8_init_55 (by decide) (by decide) ?_
  show Ev _ _ _ _ 57 72 _ _ [(2, 64)] [(0, (20 : Int)), (2, (64 : Int))]
  refine ev_newi (N := 20) dX8_init_57 wyint sp72 (by decide) (by decide) ?_
  show Ev _ _ _ _ 59 73 _ _ [(2, 64)] [(2, (72 : Int)), (2, (64 : Int))]
  refine ev_putrF (j := 7) dX8_init_59 cf_X8 wf_X8_35 sp64 (by decide) (by decide) rfl rfl rfl rfl (fun z => absurd z (by decide +kernel)) ?_
  show Ev _ _ _ _ 62 73 _ _ [(2, 64)] []
  refine ev_aload_n dX8_init_62 rfl (by decide) ?_
  show Ev _ _ _ _ 63 73 _ _ [(2, 64)] [(2, (64 : Int))]
  refine ev_bipush dX8_init_63 (by decide) (by decide) ?_
  show Ev _ _ _ _ 65 73 _ _ [(2, 64)] [(0, (20 : Int)), (2, (64 : Int))]
  refine ev_newi (N := 20) dX8_init_65 wyint sp73 (by decide) (by decide) ?_
  show Ev _ _ _ _ 67 74 _ _ [(2, 64)] [(2, (73 : Int)), (2, (64 : Int))]
  refine ev_putrF (j := 8) dX8_init_67 cf_X8 wf_X8_38 sp64 (by decide) (by decide) rfl rfl rfl rfl (fun z => absurd z (by decide +kernel)) ?_
  show Ev _ _ _ _ 70 74 _ _ [(2, 64)] []
  exact ev_vret dX8_init_70 rfl rfl
def rc_X8_init_75 (ρ : Mem) : Mem := (mup (mup (mup (mup (mup (mup (mup (mup (mup ρ 74 0 75) 74 1 76) 74 2 77) 74 3 78) 74 4 79) 74 5 80) 74 6 81) 74 7 82) 74 8 83)
def sc_X8_init_75 (σ : Mem) : Mem := σ
set_option maxHeartbeats 4000000 in
set_option maxRecDepth 20000 in
theorem c_X8_init_75 (ρ σ : Mem) : Ms yX8_init M_X8_init 75 84 [(2, 74)] ρ σ (none, rc_X8_init_75 ρ, sc_X8_init_75 σ) := by
  refine Ms.of 0 (by decide +kernel) rfl (fun _ => rfl) (fun _ _ _ => trivial) rfl rfl ?_
  show Ev M_X8_init 75 84 _ 0 75 ρ σ [(2, 74)] []
  show Ev _ _ _ _ 0 75 _ _ [(2, 74)] []
  refine ev_aload_n dX8_init_0 rfl (by decide) ?_
  show Ev _ _ _ _ 1 75 _ _ [(2, 74)] [(2, (74 : Int))]
  refine ev_oinit dX8_init_1 wo_X8_3 wo_i wo_c (by decide) (by decide) (by decide) ?_
  show Ev _ _ _ _ 4 75 _ _ [(2, 74)] []
  refine ev_aload_n dX8_init_4 rfl (by decide) ?_
  show Ev _ _ _ _ 5 75 _ _ [(2, 74)] [(2, (74 : Int))]
  refine ev_iconst dX8_init_5 (by decide) ?_
  show Ev _ _ _ _ 6 75 _ _ [(2, 74)] [(0, (5 : Int)), (2, (74 : Int))]
  refine ev_newz (N := 5) dX8_init_6 wyboolean sp75 (by decide) (by decide) ?_
  show Ev _ _ _ _ 8 76 _ _ [(2, 74)] [(2, (75 : Int)), (2, (74 : Int))]
  refine ev_putrF (j := 0) dX8_init_8 cf_X8 wf_X8_9 sp74 (by decide) (by decide) rfl rfl rfl rfl (fun z => absurd z (by decide +kernel)) ?_
  show Ev _ _ _ _ 11 76 _ _ [(2, 74)] []
  refine ev_aload_n dX8_init_11 rfl (by decide) ?_
  show Ev _ _ _ _ 12 76 _ _ [(2, 74)] [(2, (74 : Int))]
  refine ev_iconst dX8_init_12 (by decide) ?_
  show Ev _ _ _ _ 13 76 _ _ [(2, 74)] [(0, (5 : Int)), (2, (74 : Int))]
  refine ev_newi (N := 5) dX8_init_13 wyint sp76 (by decide) (by decide) ?_
  show Ev _ _ _ _ 15 77 _ _ [(2, 74)] [(2, (76 : Int)), (2, (74 : Int))]
  refine ev_putrF (j := 1) dX8_init_15 cf_X8 wf_X8_15 sp74 (by decide) (by decide) rfl rfl rfl rfl (fun z => absurd z (by decide +kernel)) ?_
  show Ev _ _ _ _ 18 77 _ _ [(2, 74)] []
  refine ev_aload_n dX8_init_18 rfl (by decide) ?_
  show Ev _ _ _ _ 19 77 _ _ [(2, 74)] [(2, (74 : Int))]
  refine ev_iconst dX8_init_19 (by decide) ?_
  show Ev _ _ _ _ 20 77 _ _ [(2, 74)] [(0, (5 : Int)), (2, (74 : Int))]
  refine ev_newi (N := 5) dX8_init_20 wyint sp77 (by decide) (by decide) ?_
  show Ev _ _ _ _ 22 78 _ _ [(2, 74)] [(2, (77 : Int)), (2, (74 : Int))]
  refine ev_putrF (j := 2) dX8_init_22 cf_X8 wf_X8_19 sp74 (by decide) (by decide) rfl rfl rfl rfl (fun z => absurd z (by decide +kernel)) ?_
  show Ev _ _ _ _ 25 78 _ _ [(2, 74)] []
  refine ev_aload_n dX8_init_25 rfl (by decide) ?_
  show Ev _ _ _ _ 26 78 _ _ [(2, 74)] [(2, (74 : Int))]
  refine ev_iconst dX8_init_26 (by decide) ?_
  show Ev _ _ _ _ 27 78 _ _ [(2, 74)] [(0, (5 : Int)), (2, (74 : Int))]
  refine ev_newi (N := 5) dX8_init_27 wyint sp78 (by decide) (by decide) ?_
  show Ev _ _ _ _ 29 79 _ _ [(2, 74)] [(2, (78 : Int)), (2, (74 : Int))]
  refine ev_putrF (j := 3) dX8_init_29 cf_X8 wf_X8_22 sp74 (by decide) (by decide) rfl rfl rfl rfl (fun z => absurd z (by decide +kernel)) ?_
  show Ev _ _ _ _ 32 79 _ _ [(2, 74)] []
  refine ev_aload_n dX8_init_32 rfl (by decide) ?_
  show Ev _ _ _ _ 33 79 _ _ [(2, 74)] [(2, (74 : Int))]
  refine ev_iconst dX8_init_33 (by decide) ?_
  show Ev _ _ _ _ 34 79 _ _ [(2, 74)] [(0, (5 : Int)), (2, (74 : Int))]
  refine ev_newi (N := 5) dX8_init_34 wyint sp79 (by decide) (by decide) ?_
  show Ev _ _ _ _ 36 80 _ _ [(2, 74)] [(2, (79 : Int)), (2, (74 : Int))]
  refine ev_putrF (j := 4) dX8_init_36 cf_X8 wf_X8_25 sp74 (by decide) (by decide) rfl rfl rfl rfl (fun z => absurd z (by decide +kernel)) ?_
  show Ev _ _ _ _ 39 80 _ _ [(2, 74)] []
  refine ev_aload_n dX8_init_39 rfl (by decide) ?_
  show Ev _ _ _ _ 40 80 _ _ [(2, 74)] [(2, (74 : Int))]
  refine ev_iconst dX8_init_40 (by decide) ?_
  show Ev _ _ _ _ 41 80 _ _ [(2, 74)] [(0, (5 : Int)), (2, (74 : Int))]
  refine ev_newl (N := 5) dX8_init_41 wylong sp80 (by decide) (by decide) ?_
  show Ev _ _ _ _ 43 81 _ _ [(2, 74)] [(2, (80 : Int)), (2, (74 : Int))]
  refine ev_putrF (j := 5) dX8_init_43 cf_X8 wf_X8_28 sp74 (by decide) (by decide) rfl rfl rfl rfl (fun z => absurd z (by decide +kernel)) ?_
  show Ev _ _ _ _ 46 81 _ _ [(2, 74)] []
  refine ev_aload_n dX8_init_46 rfl (by decide) ?_
  show Ev _ _ _ _ 47 81 _ _ [(2, 74)] [(2, (74 : Int))]
  refine ev_bipush dX8_init_47 (by decide) (by decide) ?_
  show Ev _ _ _ _ 49 81 _ _ [(2, 74)] [(0, (20 : Int)), (2, (74 : Int))]
  refine ev_newi (N := 20) dX8_init_49 wyint sp81 (by decide) (by decide) ?_
  show Ev _ _ _ _ 51 82 _ _ [(2, 74)] [(2, (81 : Int)), (2, (74 : Int))]
  refine ev_putrF (j := 6) dX8_init_51 cf_X8 wf_X8_32 sp74 (by decide) (by decide) rfl rfl rfl rfl (fun z => absurd z (by decide +kernel)) ?_
  show Ev _ _ _ _ 54 82 _ _ [(2, 74)] []
  refine ev_aload_n dX8_init_54 rfl (by decide) ?_
  show Ev _ _ _ _ 55 82 _ _ [(2, 74)] [(2, (74 : Int))]
  refine ev_bipush dX8_init_55 (by decide) (by decide) ?_
  show Ev _ _ _ _ 57 82 _ _ [(2, 74)] [(0, (20 : Int)), (2, (74 : Int))]
  refine ev_newi (N := 20) dX8_init_57 wyint sp82 (by decide) (by decide) ?_
  show Ev _ _ _ _ 59 83 _ _ [(2, 74)] [(2, (82 : Int)), (2, (74 : Int))]
  refine ev_putrF (j := 7) dX8_init_59 cf_X8 wf_X8_35 sp74 (by decide) (by decide) rfl rfl rfl rfl (fun z => absurd z (by decide +kernel)) ?_
  show Ev _ _ _ _ 62 83 _ _ [(2, 74)] []
  refine ev_aload_n dX8_init_62 rfl (by decide) ?_
  show Ev _ _ _ _ 63 83 _ _ [(2, 74)] [(2, (74 : Int))]
  refine ev_bipush dX8_init_63 (by decide) (by decide) ?_
  show Ev _ _ _ _ 65 83 _ _ [(2, 74)] [(0, (20 : Int)), (2, (74 : Int))]
  refine ev_newi (N := 20) dX8_init_65 wyint sp83 (by decide) (by decide) ?_
  show Ev _ _ _ _ 67 84 _ _ [(2, 74)] [(2, (83 : Int)), (2, (74 : Int))]
  refine ev_putrF (j := 8) dX8_init_67 cf_X8 wf_X8_38 sp74 (by decide) (by decide) rfl rfl rfl rfl (fun z => absurd z (by decide +kernel)) ?_
  show Ev _ _ _ _ 70 84 _ _ [(2, 74)] []
  exact ev_vret dX8_init_70 rfl rfl
def rc_X8_init_85 (ρ : Mem) : Mem := (mup (mup (mup (mup (mup (mup (mup (mup (mup ρ 84 0 85) 84 1 86) 84 2 87) 84 3 88) 84 4 89) 84 5 90) 84 6 91) 84 7 92) 84 8 93)
def sc_X8_init_85 (σ : Mem) : Mem := σ
set_option maxHeartbeats 4000000 in
set_option maxRecDepth 20000 in
theorem c_X8_init_85 (ρ σ : Mem) : Ms yX8_init M_X8_init 85 94 [(2, 84)] ρ σ (none, rc_X8_init_85 ρ, sc_X8_init_85 σ) := by
  refine Ms.of 0 (by decide +kernel) rfl (fun _ => rfl) (fun _ _ _ => trivial) rfl rfl ?_
  show Ev M_X8_init 85 94 _ 0 85 ρ σ [(2, 84)] []
  show Ev _ _ _ _ 0 85 _ _ [(2, 84)] []
  refine ev_aload_n dX8_init_0 rfl (by decide) ?_
  show Ev _ _ _ _ 1 85 _ _ [(2, 84)] [(2, (84 : Int))]
  refine ev_oinit dX8_init_1 wo_X8_3 wo_i wo_c (by decide) (by decide) (by decide) ?_
  show Ev _ _ _ _ 4 85 _ _ [(2, 84)] []
  refine ev_aload_n dX8_init_4 rfl (by decide) ?_
  show Ev _ _ _ _ 5 85 _ _ [(2, 84)] [(2, (84 : Int))]
  refine ev_iconst dX8_init_5 (by decide) ?_
  show Ev _ _ _ _ 6 85 _ _ [(2, 84)] [(0, (5 : Int)), (2, (84 : Int))]
  refine ev_newz (N := 5) dX8_init_6 wyboolean sp85 (by decide) (by decide) ?_
  show Ev _ _ _ _ 8 86 _ _ [(2, 84)] [(2, (85 : Int)), (2, (84 : Int))]
  refine ev_putrF (j := 0) dX8_init_8 cf_X8 wf_X8_9 sp84 (by decide) (by decide) rfl rfl rfl rfl (fun z => absurd z (by decide +kernel)) ?_
  show Ev _ _ _ _ 11 86 _ _ [(2, 84)] []
  refine ev_aload_n dX8_init_11 rfl (by decide) ?_
  show Ev _ _ _ _ 12 86 _ _ [(2, 84)] [(2, (84 : Int))]
  refine ev_iconst dX8_init_12 (by decide) ?_
  show Ev _ _ _ _ 13 86 _ _ [(2, 84)] [(0, (5 : Int)), (2, (84 : Int))]
  refine ev_newi (N := 5) dX8_init_13 wyint sp86 (by decide) (by decide) ?_
  show Ev _ _ _ _ 15 87 _ _ [(2, 84)] [(2, (86 : Int)), (2, (84 : Int))]
  refine ev_putrF (j := 1) dX8_init_15 cf_X8 wf_X8_15 sp84 (by decide) (by decide) rfl rfl rfl rfl (fun z => absurd z (by decide +kernel)) ?_
  show Ev _ _ _ _ 18 87 _ _ [(2, 84)] []
  refine ev_aload_n dX8_init_18 rfl (by decide) ?_
  show Ev _ _ _ _ 19 87 _ _ [(2, 84)] [(2, (84 : Int))]
  refine ev_iconst dX8_init_19 (by decide) ?_
  show Ev _ _ _ _ 20 87 _ _ [(2, 84)] [(0, (5 : Int)), (2, (84 : Int))]
  refine ev_newi (N := 5) dX8_init_20 wyint sp87 (by decide) (by decide) ?_
  show Ev _ _ _ _ 22 88 _ _ [(2, 84)] [(2, (87 : Int)), (2, (84 : Int))]
  refine ev_putrF (j := 2) dX8_init_22 cf_X8 wf_X8_19 sp84 (by decide) (by decide) rfl rfl rfl rfl (fun z => absurd z (by decide +kernel)) ?_
  show Ev _ _ _ _ 25 88 _ _ [(2, 84)] []
  refine ev_aload_n dX8_init_25 rfl (by decide) ?_
  show Ev _ _ _ _ 26 88 _ _ [(2, 84)] [(2, (84 : Int))]
  refine ev_iconst dX8_init_26 (by decide) ?_
  show Ev _ _ _ _ 27 88 _ _ [(2, 84)] [(0, (5 : Int)), (2, (84 : Int))]
  refine ev_newi (N := 5) dX8_init_27 wyint sp88 (by decide) (by decide) ?_
  show Ev _ _ _ _ 29 89 _ _ [(2, 84)] [(2, (88 : Int)), (2, (84 : Int))]
  refine ev_putrF (j := 3) dX8_init_29 cf_X8 wf_X8_22 sp84 (by decide) (by decide) rfl rfl rfl rfl (fun z => absurd z (by decide +kernel)) ?_
  show Ev _ _ _ _ 32 89 _ _ [(2, 84)] []
  refine ev_aload_n dX8_init_32 rfl (by decide) ?_
  show Ev _ _ _ _ 33 89 _ _ [(2, 84)] [(2, (84 : Int))]
  refine ev_iconst dX8_init_33 (by decide) ?_
  show Ev _ _ _ _ 34 89 _ _ [(2, 84)] [(0, (5 : Int)), (2, (84 : Int))]
  refine ev_newi (N := 5) dX8_init_34 wyint sp89 (by decide) (by decide) ?_
  show Ev _ _ _ _ 36 90 _ _ [(2, 84)] [(2, (89 : Int)), (2, (84 : Int))]
  refine ev_putrF (j := 4) dX8_init_36 cf_X8 wf_X8_25 sp84 (by decide) (by decide) rfl rfl rfl rfl (fun z => absurd z (by decide +kernel)) ?_
  show Ev _ _ _ _ 39 90 _ _ [(2, 84)] []
  refine ev_aload_n dX8_init_39 rfl (by decide) ?_
  show Ev _ _ _ _ 40 90 _ _ [(2, 84)] [(2, (84 : Int))]
  refine ev_iconst dX8_init_40 (by decide) ?_
  show Ev _ _ _ _ 41 90 _ _ [(2, 84)] [(0, (5 : Int)), (2, (84 : Int))]
  refine ev_newl (N := 5) dX8_init_41 wylong sp90 (by decide) (by decide) ?_
  show Ev _ _ _ _ 43 91 _ _ [(2, 84)] [(2, (90 : Int)), (2, (84 : Int))]
  refine ev_putrF (j := 5) dX8_init_43 cf_X8 wf_X8_28 sp84 (by decide) (by decide) rfl rfl rfl rfl (fun z => absurd z (by decide +kernel)) ?_
  show Ev _ _ _ _ 46 91 _ _ [(2, 84)] []
  refine ev_aload_n dX8_init_46 rfl (by decide) ?_
  show Ev _ _ _ _ 47 91 _ _ [(2, 84)] [(2, (84 : Int))]
  refine ev_bipush dX8_init_47 (by decide) (by decide) ?_
  show Ev _ _ _ _ 49 91 _ _ [(2, 84)] [(0, (20 : Int)), (2, (84 : Int))]
  refine ev_newi (N := 20) dX8_init_49 wyint sp91 (by decide) (by decide) ?_
  show Ev _ _ _ _ 51 92 _ _ [(2, 84)] [(2, (91 : Int)), (2, (84 : Int))]
  refine ev_putrF (j := 6) dX8_init_51 cf_X8 wf_X8_32 sp84 (by decide) (by decide) rfl rfl rfl rfl (fun z => absurd z (by decide +kernel)) ?_
  show Ev _ _ _ _ 54 92 _ _ [(2, 84)] []
  refine ev_aload_n dX8_init_54 rfl (by decide) ?_
  show Ev _ _ _ _ 55 92 _ _ [(2, 84)] [(2, (84 : Int))]
  refine ev_bipush dX8_init_55 (by decide) (by decide) ?_
  show Ev _ _ _ _ 57 92 _ _ [(2, 84)] [(0, (20 : Int)), (2, (84 : Int))]
  refine ev_newi (N := 20) dX8_init_57 wyint sp92 (by decide) (by decide) ?_
  show Ev _ _ _ _ 59 93 _ _ [(2, 84)] [(2, (92 : Int)), (2, (84 : Int))]
  refine ev_putrF (j := 7) dX8_init_59 cf_X8 wf_X8_35 sp84 (by decide) (by decide) rfl rfl rfl rfl (fun z => absurd z (by decide +kernel)) ?_
  show Ev _ _ _ _ 62 93 _ _ [(2, 84)] []
  refine ev_aload_n dX8_init_62 rfl (by decide) ?_
  show Ev _ _ _ _ 63 93 _ _ [(2, 84)] [(2, (84 : Int))]
  refine ev_bipush dX8_init_63 (by decide) (by decide) ?_
  show Ev _ _ _ _ 65 93 _ _ [(2, 84)] [(0, (20 : Int)), (2, (84 : Int))]
  refine ev_newi (N := 20) dX8_init_65 wyint sp93 (by decide) (by decide) ?_
  show Ev _ _ _ _ 67 94 _ _ [(2, 84)] [(2, (93 : Int)), (2, (84 : Int))]
  refine ev_putrF (j := 8) dX8_init_67 cf_X8 wf_X8_38 sp84 (by decide) (by decide) rfl rfl rfl rfl (fun z => absurd z (by decide +kernel)) ?_
  show Ev _ _ _ _ 70 94 _ _ [(2, 84)] []
  exact ev_vret dX8_init_70 rfl rfl
def rc_X8_init_95 (ρ : Mem) : Mem := (mup (mup (mup (mup (mup (mup (mup (mup (mup ρ 94 0 95) 94 1 96) 94 2 97) 94 3 98) 94 4 99) 94 5 100) 94 6 101) 94 7 102) 94 8 103)
def sc_X8_init_95 (σ : Mem) : Mem := σ
set_option maxHeartbeats 4000000 in
set_option maxRecDepth 20000 in
theorem c_X8_init_95 (ρ σ : Mem) : Ms yX8_init M_X8_init 95 104 [(2, 94)] ρ σ (none, rc_X8_init_95 ρ, sc_X8_init_95 σ) := by
  refine Ms.of 0 (by decide +kernel) rfl (fun _ => rfl) (fun _ _ _ => trivial) rfl rfl ?_
  show Ev M_X8_init 95 104 _ 0 95 ρ σ [(2, 94)] []
  show Ev _ _ _ _ 0 95 _ _ [(2, 94)] []
  refine ev_aload_n dX8_init_0 rfl (by decide) ?_
  show Ev _ _ _ _ 1 95 _ _ [(2, 94)] [(2, (94 : Int))]
  refine ev_oinit dX8_init_1 wo_X8_3 wo_i wo_c (by decide) (by decide) (by decide) ?_
  show Ev _ _ _ _ 4 95 _ _ [(2, 94)] []
  refine ev_aload_n dX8_init_4 rfl (by decide) ?_
  show Ev _ _ _ _ 5 95 _ _ [(2, 94)] [(2, (94 : Int))]
  refine ev_iconst dX8_init_5 (by decide) ?_
  show Ev _ _ _ _ 6 95 _ _ [(2, 94)] [(0, (5 : Int)), (2, (94 : Int))]
  refine ev_newz (N := 5) dX8_init_6 wyboolean sp95 (by decide) (by decide) ?_
  show Ev _ _ _ _ 8 96 _ _ [(2, 94)] [(2, (95 : Int)), (2, (94 : Int))]
  refine ev_putrF (j := 0) dX8_init_8 cf_X8 wf_X8_9 sp94 (by decide) (by decide) rfl rfl rfl rfl (fun z => absurd z (by decide +kernel)) ?_
  show Ev _ _ _ _ 11 96 _ _ [(2, 94)] []
  refine ev_aload_n dX8_init_11 rfl (by decide) ?_
  show Ev _ _ _ _ 12 96 _ _ [(2, 94)] [(2, (94 : Int))]
  refine ev_iconst dX8_init_12 (by decide) ?_
  show Ev _ _ _ _ 13 96 _ _ [(2, 94)] [(0, (5 : Int)), (2, (94 : Int))]
  refine ev_newi (N := 5) dX8_init_13 wyint sp96 (by decide) (by decide) ?_
  show Ev _ _ _ _ 15 97 _ _ [(2, 94)] [(2, (96 : Int)), (2, (94 : Int))]
  refine ev_putrF (j := 1) dX8_init_15 cf_X8 wf_X8_15 sp94 (by decide) (by decide) rfl rfl rfl rfl (fun z => absurd z (by decide +kernel)) ?_
  show Ev _ _ _ _ 18 97 _ _ [(2, 94)] []
  refine ev_aload_n dX8_init_18 rfl (by decide) ?_
  show Ev _ _ _ _ 19 97 _ _ [(2, 94)] [(2, (94 : Int))]
  refine ev_iconst dX8_init_19 (by decide) ?_
  show Ev _ _ _ _ 20 97 _ _ [(2, 94)] [(0, (5 : Int)), (2, (94 : Int))]
  refine ev_newi (N := 5) dX8_init_20 wyint sp97 (by decide) (by decide) ?_
  show Ev _ _ _ _ 22 98 _ _ [(2, 94)] [(2, (97 : Int)), (2, (94 : Int))]
  refine ev_putrF (j := 2) dX8_init_22 cf_X8 wf_X8_19 sp94 (by decide) (by decide) rfl rfl rfl rfl (fun z => absurd z (by decide +kernel)) ?_
  show Ev _ _ _ _ 25 98 _ _ [(2, 94)] []
  refine ev_aload_n dX8_init_25 rfl (by decide) ?_
  show Ev _ _ _ _ 26 98 _ _ [(2, 94)] [(2, (94 : Int))]
  refine ev_iconst dX8_init_26 (by decide) ?_
  show Ev _ _ _ _ 27 98 _ _ [(2, 94)] [(0, (5 : Int)), (2, (94 : Int))]
  refine ev_newi (N := 5) dX8_init_27 wyint sp98 (by decide) (by decide) ?_
  show Ev _ _ _ _ 29 99 _ _ [(2, 94)] [(2, (98 : Int)), (2, (94 : Int))]
  refine ev_putrF (j := 3) dX8_init_29 cf_X8 wf_X8_22 sp94 (by decide) (by decide) rfl rfl rfl rfl (fun z => absurd z (by decide +kernel)) ?_
  show Ev _ _ _ _ 32 99 _ _ [(2, 94)] []
  refine ev_aload_n dX8_init_32 rfl (by decide) ?_
  show Ev _ _ _ _ 33 99 _ _ [(2, 94)] [(2, (94 : Int))]
  refine ev_iconst dX8_init_33 (by decide) ?_
  show Ev _ _ _ _ 34 99 _ _ [(2, 94)] [(0, (5 : Int)), (2, (94 : Int))]
  refine ev_newi (N := 5) dX8_init_34 wyint sp99 (by decide) (by decide) ?_
  show Ev _ _ _ _ 36 100 _ _ [(2, 94)] [(2, (99 : Int)), (2, (94 : Int))]
  refine ev_putrF (j := 4) dX8_init_36 cf_X8 wf_X8_25 sp94 (by decide) (by decide) rfl rfl rfl rfl (fun z => absurd z (by decide +kernel)) ?_
  show Ev _ _ _ _ 39 100 _ _ [(2, 94)] []
  refine ev_aload_n dX8_init_39 rfl (by decide) ?_
  show Ev _ _ _ _ 40 100 _ _ [(2, 94)] [(2, (94 : Int))]
  refine ev_iconst dX8_init_40 (by decide) ?_
  show Ev _ _ _ _ 41 100 _ _ [(2, 94)] [(0, (5 : Int)), (2, (94 : Int))]
  refine ev_newl (N := 5) dX8_init_41 wylong sp100 (by decide) (by decide) ?_
  show Ev _ _ _ _ 43 101 _ _ [(2, 94)] [(2, (100 : Int)), (2, (94 : Int))]
  refine ev_putrF (j := 5) dX8_init_43 cf_X8 wf_X8_28 sp94 (by decide) (by decide) rfl rfl rfl rfl (fun z => absurd z (by decide +kernel)) ?_
  show Ev _ _ _ _ 46 101 _ _ [(2, 94)] []
  refine ev_aload_n dX8_init_46 rfl (by decide) ?_
  show Ev _ _ _ _ 47 101 _ _ [(2, 94)] [(2, (94 : Int))]
  refine ev_bipush dX8_init_47 (by decide) (by decide) ?_
  show Ev _ _ _ _ 49 101 _ _ [(2, 94)] [(0, (20 : Int)), (2, (94 : Int))]
  refine ev_newi (N := 20) dX8_init_49 wyint sp101 (by decide) (by decide) ?_
  show Ev _ _ _ _ 51 102 _ _ [(2, 94)] [(2, (101 : Int)), (2, (94 : Int))]
  refine ev_putrF (j := 6) dX8_init_51 cf_X8 wf_X8_32 sp94 (by decide) (by decide) rfl rfl rfl rfl (fun z => absurd z (by decide +kernel)) ?_
  show Ev _ _ _ _ 54 102 _ _ [(2, 94)] []
  refine ev_aload_n dX8_init_54 rfl (by decide) ?_
  show Ev _ _ _ _ 55 102 _ _ [(2, 94)] [(2, (94 : Int))]
  refine ev_bipush dX8_init_55 (by decide) (by decide) ?_
  show Ev _ _ _ _ 57 102 _ _ [(2, 94)] [(0, (20 : Int)), (2, (94 : Int))]
  refine ev_newi (N := 20) dX8_init_57 wyint sp102 (by decide) (by decide) ?_
  show Ev _ _ _ _ 59 103 _ _ [(2, 94)] [(2, (102 : Int)), (2, (94 : Int))]
  refine ev_putrF (j := 7) dX8_init_59 cf_X8 wf_X8_35 sp94 (by decide) (by decide) rfl rfl rfl rfl (fun z => absurd z (by decide +kernel)) ?_
  show Ev _ _ _ _ 62 103 _ _ [(2, 94)] []
  refine ev_aload_n dX8_init_62 rfl (by decide) ?_
  show Ev _ _ _ _ 63 103 _ _ [(2, 94)] [(2, (94 : Int))]
  refine ev_bipush dX8_init_63 (by decide) (by decide) ?_
  show Ev _ _ _ _ 65 103 _ _ [(2, 94)] [(0, (20 : Int)), (2, (94 : Int))]
  refine ev_newi (N := 20) dX8_init_65 wyint sp103 (by decide) (by decide) ?_
  show Ev _ _ _ _ 67 104 _ _ [(2, 94)] [(2, (103 : Int)), (2, (94 : Int))]
  refine ev_putrF (j := 8) dX8_init_67 cf_X8 wf_X8_38 sp94 (by decide) (by decide) rfl rfl rfl rfl (fun z => absurd z (by decide +kernel)) ?_
  show Ev _ _ _ _ 70 104 _ _ [(2, 94)] []
  exact ev_vret dX8_init_70 rfl rfl
def rc_X8_init_105 (ρ : Mem) : Mem := (mup (mup (mup (mup (mup (mup (mup (mup (mup ρ 104 0 105) 104 1 106) 104 2 107) 104 3 108) 104 4 109) 104 5 110) 104 6 111) 104 7 112) 104 8 113)
def sc_X8_init_105 (σ : Mem) : Mem := σ
set_option maxHeartbeats 4000000 in
set_option maxRecDepth 20000 in
theorem c_X8_init_105 (ρ σ : Mem) : Ms yX8_init M_X8_init 105 114 [(2, 104)] ρ σ (none, rc_X8_init_105 ρ, sc_X8_init_105 σ) := by
  refine Ms.of 0 (by decide +kernel) rfl (fun _ => rfl) (fun _ _ _ => trivial) rfl rfl ?_
  show Ev M_X8_init 105 114 _ 0 105 ρ σ [(2, 104)] []
  show Ev _ _ _ _ 0 105 _ _ [(2, 104)] []
  refine ev_aload_n dX8_init_0 rfl (by decide) ?_
  show Ev _ _ _ _ 1 105 _ _ [(2, 104)] [(2, (104 : Int))]
  refine ev_oinit dX8_init_1 wo_X8_3 wo_i wo_c (by decide) (by decide) (by decide) ?_
  show Ev _ _ _ _ 4 105 _ _ [(2, 104)] []
  refine ev_aload_n dX8_init_4 rfl (by decide) ?_
  show Ev _ _ _ _ 5 105 _ _ [(2, 104)] [(2, (104 : Int))]
  refine ev_iconst dX8_init_5 (by decide) ?_
  show Ev _ _ _ _ 6 105 _ _ [(2, 104)] [(0, (5 : Int)), (2, (104 : Int))]
  refine ev_newz (N := 5) dX8_init_6 wyboolean sp105 (by decide) (by decide) ?_
  show Ev _ _ _ _ 8 106 _ _ [(2, 104)] [(2, (105 : Int)), (2, (104 : Int))]
  refine ev_putrF (j := 0) dX8_init_8 cf_X8 wf_X8_9 sp104 (by decide) (by decide) rfl rfl rfl rfl (fun z => absurd z (by decide +kernel)) ?_
  show Ev _ _ _ _ 11 106 _ _ [(2, 104)] []
  refine ev_aload_n dX8_init_11 rfl (by decide) ?_
  show Ev _ _ _ _ 12 106 _ _ [(2, 104)] [(2, (104 : Int))]
  refine ev_iconst dX8_init_12 (by decide) ?_
  show Ev _ _ _ _ 13 106 _ _ [(2, 104)] [(0, (5 : Int)), (2, (104 : Int))]
  refine ev_newi (N := 5) dX8_init_13 wyint sp106 (by decide) (by decide) ?_
  show Ev _ _ _ _ 15 107 _ _ [(2, 104)] [(2, (106 : Int)), (2, (104 : Int))]
  refine ev_putrF (j := 1) dX8_init_15 cf_X8 wf_X8_15 sp104 (by decide) (by decide) rfl rfl rfl rfl (fun z => absurd z (by decide +kernel)) ?_
  show Ev _ _ _ _ 18 107 _ _ [(2, 104)] []
  refine ev_aload_n dX8_init_18 rfl (by decide) ?_
  show Ev _ _ _ _ 19 107 _ _ [(2, 104)] [(2, (104 : Int))]
  refine ev_iconst dX8_init_19 (by decide) ?_
  show Ev _ _ _ _ 20 107 _ _ [(2, 104)] [(0, (5 : Int)), (2, (104 : Int))]
  refine ev_newi (N := 5) dX8_init_20 wyint sp107 (by decide) (by decide) ?_
  show Ev _ _ _ _ 22 108 _ _ [(2, 104)] [(2, (107 : Int)), (2, (104 : Int))]
  refine ev_putrF (j := 2) dX8_init_22 cf_X8 wf_X8_19 sp104 (by decide) (by decide) rfl rfl rfl rfl (fun z => absurd z (by decide +kernel)) ?_
  show Ev _ _ _ _ 25 108 _ _ [(2, 104)] []
  refine ev_aload_n dX8_init_25 rfl (by decide) ?_
  show Ev _ _ _ _ 26 108 _ _ [(2, 104)] [(2, (104 : Int))]
  refine ev_iconst dX8_init_26 (by decide) ?_
  show Ev _ _ _ _ 27 108 _ _ [(2, 104)] [(0, (5 : Int)), (2, (104 : Int))]
  refine ev_newi (N := 5) dX8_init_27 wyint sp108 (by decide) (by decide) ?_
  show Ev _ _ _ _ 29 109 _ _ [(2, 104)] [(2, (108 : Int)), (2, (104 : Int))]
  refine ev_putrF (j := 3) dX8_init_29 cf_X8 wf_X8_22 sp104 (by decide) (by decide) rfl rfl rfl rfl (fun z => absurd z (by decide +kernel)) ?_
  show Ev _ _ _ _ 32 109 _ _ [(2, 104)] []
  refine ev_aload_n dX8_init_32 rfl (by decide) ?_
  show Ev _ _ _ _ 33 109 _ _ [(2, 104)] [(2, (104 : Int))]
  refine ev_iconst dX8_init_33 (by decide) ?_
  show Ev _ _ _ _ 34 109 _ _ [(2, 104)] [(0, (5 : Int)), (2, (104 : Int))]
  refine ev_newi (N := 5) dX8_init_34 wyint sp109 (by decide) (by decide) ?_
  show Ev _ _ _ _ 36 110 _ _ [(2, 104)] [(2, (109 : Int)), (2, (104 : Int))]
  refine ev_putrF (j := 4) dX8_init_36 cf_X8 wf_X8_25 sp104 (by decide) (by decide) rfl rfl rfl rfl (fun z => absurd z (by decide +kernel)) ?_
  show Ev _ _ _ _ 39 110 _ _ [(2, 104)] []
  refine ev_aload_n dX8_init_39 rfl (by decide) ?_
  show Ev _ _ _ _ 40 110 _ _ [(2, 104)] [(2, (104 : Int))]
  refine ev_iconst dX8_init_40 (by decide) ?_
  show Ev _ _ _ _ 41 110 _ _ [(2, 104)] [(0, (5 : Int)), (2, (104 : Int))]
  refine ev_newl (N := 5) dX8_init_41 wylong sp110 (by decide) (by decide) ?_
  show Ev _ _ _ _ 43 111 _ _ [(2, 104)] [(2, (110 : Int)), (2, (104 : Int))]
  refine ev_putrF (j := 5) dX8_init_43 cf_X8 wf_X8_28 sp104 (by decide) (by decide) rfl rfl rfl rfl (fun z => absurd z (by decide +kernel)) ?_
  show Ev _ _ _ _ 46 111 _ _ [(2, 104)] []
  refine ev_aload_n dX8_init_46 rfl (by decide) ?_
  show Ev _ _ _ _ 47 111 _ _ [(2, 104)] [(2, (104 : Int))]
  refine ev_bipush dX8_init_47 (by decide) (by decide) ?_
  show Ev _ _ _ _ 49 111 _ _ [(2, 104)] [(0, (20 : Int)), (2, (104 : Int))]
  refine ev_newi (N := 20) dX8_init_49 wyint sp111 (by decide) (by decide) ?_
  show Ev _ _ _ _ 51 112 _ _ [(2, 104)] [(2, (111 : Int)), (2, (104 : Int))]
  refine ev_putrF (j := 6) dX8_init_51 cf_X8 wf_X8_32 sp104 (by decide) (by decide) rfl rfl rfl rfl (fun z => absurd z (by decide +kernel)) ?_
  show Ev _ _ _ _ 54 112 _ _ [(2, 104)] []
  refine ev_aload_n dX8_init_54 rfl (by decide) ?_
  show Ev _ _ _ _ 55 112 _ _ [(2, 104)] [(2, (104 : Int))]
  refine ev_bipush dX8_init_55 (by decide) (by decide) ?_
  show Ev _ _ _ _ 57 112 _ _ [(2, 104)] [(0, (20 : Int)), (2, (104 : Int))]
  refine ev_newi (N := 20) dX8_init_57 wyint sp112 (by decide) (by decide) ?_
  show Ev _ _ _ _ 59 113 _ _ [(2, 104)] [(2, (112 : Int)), (2, (104 : Int))]
  refine ev_putrF (j := 7) dX8_init_59 cf_X8 wf_X8_35 sp104 (by decide) (by decide) rfl rfl rfl rfl (fun z => absurd z (by decide +kernel)) ?_
  show Ev _ _ _ _ 62 113 _ _ [(2, 104)] []
  refine ev_aload_n dX8_init_62 rfl (by decide) ?_
  show Ev _ _ _ _ 63 113 _ _ [(2, 104)] [(2, (104 : Int))]
  refine ev_bipush dX8_init_63 (by decide) (by decide) ?_
  show Ev _ _ _ _ 65 113 _ _ [(2, 104)] [(0, (20 : Int)), (2, (104 : Int))]
  refine ev_newi (N := 20) dX8_init_65 wyint sp113 (by decide) (by decide) ?_
  show Ev _ _ _ _ 67 114 _ _ [(2, 104)] [(2, (113 : Int)), (2, (104 : Int))]
  refine ev_putrF (j := 8) dX8_init_67 cf_X8 wf_X8_38 sp104 (by decide) (by decide) rfl rfl rfl rfl (fun z => absurd z (by decide +kernel)) ?_
  show Ev _ _ _ _ 70 114 _ _ [(2, 104)] []
  exact ev_vret dX8_init_70 rfl rfl
def rc_X8_init_115 (ρ : Mem) : Mem := (mup (mup (mup (mup (mup (mup (mup (mup (mup ρ 114 0 115) 114 1 116) 114 2 117) 114 3 118) 114 4 119) 114 5 120) 114 6 121) 114 7 122) 114 8 123)
def sc_X8_init_115 (σ : Mem) : Mem := σ
set_option maxHeartbeats 4000000 in
set_option maxRecDepth 20000 in
theorem c_X8_init_115 (ρ σ : Mem) : Ms yX8_init M_X8_init 115 124 [(2, 114)] ρ σ (none, rc_X8_init_115 ρ, sc_X8_init_115 σ) := by
  refine Ms.of 0 (by decide +kernel) rfl (fun _ => rfl) (fun _ _ _ => trivial) rfl rfl ?_
  show Ev M_X8_init 115 124 _ 0 115 ρ σ [(2, 114)] []
  show Ev _ _ _ _ 0 115 _ _ [(2, 114)] []
  refine ev_aload_n dX8_init_0 rfl (by decide) ?_
  show Ev _ _ _ _ 1 115 _ _ [(2, 114)] [(2, (114 : Int))]
  refine ev_oinit dX8_init_1 wo_X8_3 wo_i wo_c (by decide) (by decide) (by decide) ?_
  show Ev _ _ _ _ 4 115 _ _ [(2, 114)] []
  refine ev_aload_n dX8_init_4 rfl (by decide) ?_
  show Ev _ _ _ _ 5 115 _ _ [(2, 114)] [(2, (114 : Int))]
  refine ev_iconst dX8_init_5 (by decide) ?_
  show Ev _ _ _ _ 6 115 _ _ [(2, 114)] [(0, (5 : Int)), (2, (114 : Int))]
  refine ev_newz (N := 5) dX8_init_6 wyboolean sp115 (by decide) (by decide) ?_
  show Ev _ _ _ _ 8 116 _ _ [(2, 114)] [(2, (115 : Int)), (2, (114 : Int))]
  refine ev_putrF (j := 0) dX8_init_8 cf_X8 wf_X8_9 sp114 (by decide) (by decide) rfl rfl rfl rfl (fun z => absurd z (by decide +kernel)) ?_
  show Ev _ _ _ _ 11 116 _ _ [(2, 114)] []
  refine ev_aload_n dX8_init_11 rfl (by decide) ?_
  show Ev _ _ _ _ 12 116 _ _ [(2, 114)] [(2, (114 : Int))]
  refine ev_iconst dX8_init_12 (by decide) ?_
  show Ev _ _ _ _ 13 116 _ _ [(2, 114)] [(0, (5 : Int)), (2, (114 : Int))]
  refine ev_newi (N := 5) dX8_init_13 wyint sp116 (by decide) (by decide) ?_
  show Ev _ _ _ _ 15 117 _ _ [(2, 114)] [(2, (116 : Int)), (2, (114 : Int))]
  refine ev_putrF (j := 1) dX8_init_15 cf_X8 wf_X8_15 sp114 (by decide) (by decide) rfl rfl rfl rfl (fun z => absurd z (by decide +kernel)) ?_
  show Ev _ _ _ _ 18 117 _ _ [(2, 114)] []
  refine ev_aload_n dX8_init_18 rfl (by decide) ?_
  show Ev _ _ _ _ 19 117 _ _ [(2, 114)] [(2, (114 : Int))]
  refine ev_iconst dX8_init_19 (by decide) ?_
  show Ev _ _ _ _ 20 117 _ _ [(2, 114)] [(0, (5 : Int)), (2, (114 : Int))]
  refine ev_newi (N := 5) dX8_init_20 wyint sp117 (by decide) (by decide) ?_
  show Ev _ _ _ _ 22 118 _ _ [(2, 114)] [(2, (117 : Int)), (2, (114 : Int))]
  refine ev_putrF (j := 2) dX8_init_22 cf_X8 wf_X8_19 sp114 (by decide) (by decide) rfl rfl rfl rfl (fun z => absurd z (by decide +kernel)) ?_
  show Ev _ _ _ _ 25 118 _ _ [(2, 114)] []
  refine ev_aload_n dX8_init_25 rfl (by decide) ?_
  show Ev _ _ _ _ 26 118 _ _ [(2, 114)] [(2, (114 : Int))]
  refine ev_iconst dX8_init_26 (by decide) ?_
  show Ev _ _ _ _ 27 118 _ _ [(2, 114)] [(0, (5 : Int)), (2, (114 : Int))]
  refine ev_newi (N := 5) dX8_init_27 wyint sp118 (by decide) (by decide) ?_
  show Ev _ _ _ _ 29 119 _ _ [(2, 114)] [(2, (118 : Int)), (2, (114 : Int))]
  refine ev_putrF (j := 3) dX8_init_29 cf_X8 wf_X8_22 sp114 (by decide) (by decide) rfl rfl rfl rfl (fun z => absurd z (by decide +kernel)) ?_
  show Ev _ _ _ _ 32 119 _ _ [(2, 114)] []
  refine ev_aload_n dX8_init_32 rfl (by decide) ?_
  show Ev _ _ _ _ 33 119 _ _ [(2, 114)] [(2, (114 : Int))]
  refine ev_iconst dX8_init_33 (by decide) ?_
  show Ev _ _ _ _ 34 119 _ _ [(2, 114)] [(0, (5 : Int)), (2, (114 : Int))]
  refine ev_newi (N := 5) dX8_init_34 wyint sp119 (by decide) (by decide) ?_
  show Ev _ _ _ _ 36 120 _ _ [(2, 114)] [(2, (119 : Int)), (2, (114 : Int))]
  refine ev_putrF (j := 4) dX8_init_36 cf_X8 wf_X8_25 sp114 (by decide) (by decide) rfl rfl rfl rfl (fun z => absurd z (by decide +kernel)) ?_
  show Ev _ _ _ _ 39 120 _ _ [(2, 114)] []
  refine ev_aload_n dX8_init_39 rfl (by decide) ?_
  show Ev _ _ _ _ 40 120 _ _ [(2, 114)] [(2, (114 : Int))]
  refine ev_iconst dX8_init_40 (by decide) ?_
  show Ev _ _ _ _ 41 120 _ _ [(2, 114)] [(0, (5 : Int)), (2, (114 : Int))]
  refine ev_newl (N := 5) dX8_init_41 wylong sp120 (by decide) (by decide) ?_
  show Ev _ _ _ _ 43 121 _ _ [(2, 114)] [(2, (120 : Int)), (2, (114 : Int))]
  refine ev_putrF (j := 5) dX8_init_43 cf_X8 wf_X8_28 sp114 (by decide) (by decide) rfl rfl rfl rfl (fun z => absurd z (by decide +kernel)) ?_
  show Ev _ _ _ _ 46 121 _ _ [(2, 114)] []
  refine ev_aload_n dX8_init_46 rfl (by decide) ?_
  show Ev _ _ _ _ 47 121 _ _ [(2, 114)] [(2, (114 : Int))]
  refine ev_bipush dX8_init_47 (by decide) (by decide) ?_
  show Ev _ _ _ _ 49 121 _ _ [(2, 114)] [(0, (20 : Int)), (2, (114 : Int))]
  refine ev_newi (N := 20) dX8_init_49 wyint sp121 (by decide) (by decide) ?_
  show Ev _ _ _ _ 51 122 _ _ [(2, 114)] [(2, (121 : Int)), (2, (114 : Int))]
  refine ev_putrF (j := 6) dX8_init_51 cf_X8 wf_X8_32 sp114 (by decide) (by decide) rfl rfl rfl rfl (fun z => absurd z (by decide +kernel)) ?_
  show Ev _ _ _ _ 54 122 _ _ [(2, 114)] []
  refine ev_aload_n dX8_init_54 rfl (by decide) ?_
  show Ev _ _ _ _ 55 122 _ _ [(2, 114)] [(2, (114 : Int))]
  refine ev_bipush dX8_init_55 (by decide) (by decide) ?_
  show Ev _ _ _ _ 57 122 _ _ [(2, 114)] [(0, (20 : Int)), (2, (114 : Int))]
  refine ev_newi (N := 20) dX8_init_57 wyint sp122 (by decide) (by decide) ?_
  show Ev _ _ _ _ 59 123 _ _ [(2, 114)] [(2, (122 : Int)), (2, (114 : Int))]
  refine ev_putrF (j := 7) dX8_init_59 cf_X8 wf_X8_35 sp114 (by decide) (by decide) rfl rfl rfl rfl (fun z => absurd z (by decide +kernel)) ?_
  show Ev _ _ _ _ 62 123 _ _ [(2, 114)] []
  refine ev_aload_n dX8_init_62 rfl (by decide) ?_
  show Ev _ _ _ _ 63 123 _ _ [(2, 114)] [(2, (114 : Int))]
  refine ev_bipush dX8_init_63 (by decide) (by decide) ?_
  show Ev _ _ _ _ 65 123 _ _ [(2, 114)] [(0, (20 : Int)), (2, (114 : Int))]
  refine ev_newi (N := 20) dX8_init_65 wyint sp123 (by decide) (by decide) ?_
  show Ev _ _ _ _ 67 124 _ _ [(2, 114)] [(2, (123 : Int)), (2, (114 : Int))]
  refine ev_putrF (j := 8) dX8_init_67 cf_X8 wf_X8_38 sp114 (by decide) (by decide) rfl rfl rfl rfl (fun z => absurd z (by decide +kernel)) ?_
  show Ev _ _ _ _ 70 124 _ _ [(2, 114)] []
  exact ev_vret dX8_init_70 rfl rfl
def rc_X8_init_125 (ρ : Mem) : Mem := (mup (mup (mup (mup (mup (mup (mup (mup (mup ρ 124 0 125) 124 1 126) 124 2 127) 124 3 128) 124 4 129) 124 5 130) 124 6 131) 124 7 132) 124 8 133)
def sc_X8_init_125 (σ : Mem) : Mem := σ
set_option maxHeartbeats 4000000 in
set_option maxRecDepth 20000 in
theorem c_X8_init_125 (ρ σ : Mem) : Ms yX8_init M_X8_init 125 134 [(2, 124)] ρ σ (none, rc_X8_init_125 ρ, sc_X8_init_125 σ) := by
  refine Ms.of 0 (by decide +kernel) rfl (fun _ => rfl) (fun _ _ _ => trivial) rfl rfl ?_
  show Ev M_X8_init 125 134 _ 0 125 ρ σ [(2, 124)] []
  show Ev _ _ _ _ 0 125 _ _ [(2, 124)] []
  refine ev_aload_n dX8_init_0 rfl (by decide) ?_
  show Ev _ _ _ _ 1 125 _ _ [(2, 124)] [(2, (124 : Int))]
  refine ev_oinit dX8_init_1 wo_X8_3 wo_i wo_c (by decide) (by decide) (by decide) ?_
  show Ev _ _ _ _ 4 125 _ _ [(2, 124)] []
  refine ev_aload_n dX8_init_4 rfl (by decide) ?_
  show Ev _ _ _ _ 5 125 _ _ [(2, 124)] [(2, (124 : Int))]
  refine ev_iconst dX8_init_5 (by decide) ?_
  show Ev _ _ _ _ 6 125 _ _ [(2, 124)] [(0, (5 : Int)), (2, (124 : Int))]
  refine ev_newz (N := 5) dX8_init_6 wyboolean sp125 (by decide) (by decide) ?_
  show Ev _ _ _ _ 8 126 _ _ [(2, 124)] [(2, (125 : Int)), (2, (124 : Int))]
  refine ev_putrF (j := 0) dX8_init_8 cf_X8 wf_X8_9 sp124 (by decide) (by decide) rfl rfl rfl rfl (fun z => absurd z (by decide +kernel)) ?_
  show Ev _ _ _ _ 11 126 _ _ [(2, 124)] []
  refine ev_aload_n dX8_init_11 rfl (by decide) ?_
  show Ev _ _ _ _ 12 126 _ _ [(2, 124)] [(2, (124 : Int))]
  refine ev_iconst dX8_init_12 (by decide) ?_
  show Ev _ _ _ _ 13 126 _ _ [(2, 124)] [(0, (5 : Int)), (2, (124 : Int))]
  refine ev_newi (N := 5) dX8_init_13 wyint sp126 (by decide) (by decide) ?_
  show Ev _ _ _ _ 15 127 _ _ [(2, 124)] [(2, (126 : Int)), (2, (124 : Int))]
  refine ev_putrF (j := 1) dX8_init_15 cf_X8 wf_X8_15 sp124 (by decide) (by decide) rfl rfl rfl rfl (fun z => absurd z (by decide +kernel)) ?_
  show Ev _ _ _ _ 18 127 _ _ [(2, 124)] []
  refine ev_aload_n dX8_init_18 rfl (by decide) ?_
  show Ev _ _ _ _ 19 127 _ _ [(2, 124)] [(2, (124 : Int))]
  refine ev_iconst dX8_init_19 (by decide) ?_
  show Ev _ _ _ _ 20 127 _ _ [(2, 124)] [(0, (5 : Int)), (2, (124 : Int))]
  refine ev_newi (N := 5) dX8_init_20 wyint sp127 (by decide) (by decide) ?_
  show Ev _ _ _ _ 22 128 _ _ [(2, 124)] [(2, (127 : Int)), (2, (124 : Int))]
  refine ev_putrF (j := 2) dX8_init_22 cf_X8 wf_X8_19 sp124 (by decide) (by decide) rfl rfl rfl rfl (fun z => absurd z (by decide +kernel)) ?_
  show Ev _ _ _ _ 25 128 _ _ [(2, 124)] []
  refine ev_aload_n dX8_init_25 rfl (by decide) ?_
  show Ev _ _ _ _ 26 128 _ _ [(2, 124)] [(2, (124 : Int))]
  refine ev_iconst dX8_init_26 (by decide) ?_
  show Ev _ _ _ _ 27 128 _ _ [(2, 124)] [(0, (5 : Int)), (2, (124 : Int))]
  refine ev_newi (N := 5) dX8_init_27 wyint sp128 (by decide) (by decide) ?_
  show Ev _ _ _ _ 29 129 _ _ [(2, 124)] [(2, (128 : Int)), (2, (124 : Int))]
  refine ev_putrF (j := 3) dX8_init_29 cf_X8 wf_X8_22 sp124 (by decide) (by decide) rfl rfl rfl rfl (fun z => absurd z (by decide +kernel)) ?_
  show Ev _ _ _ _ 32 129 _ _ [(2, 124)] []
  refine ev_aload_n dX8_init_32 rfl (by decide) ?_
  show Ev _ _ _ _ 33 129 _ _ [(2, 124)] [(2, (124 : Int))]
  refine ev_iconst dX8_init_33 (by decide) ?_
  show Ev _ _ _ _ 34 129 _ _ [(2, 124)] [(0, (5 : Int)), (2, (124 : Int))]
  refine ev_newi (N := 5) dX8_init_34 wyint sp129 (by decide) (by decide) ?_
  show Ev _ _ _ _ 36 130 _ _ [(2, 124)] [(2, (129 : Int)), (2, (124 : Int))]
  refine ev_putrF (j := 4) dX8_init_36 cf_X8 wf_X8_25 sp124 (by decide) (by decide) rfl rfl rfl rfl (fun z => absurd z (by decide +kernel)) ?_
  show Ev _ _ _ _ 39 130 _ _ [(2, 124)] []
  refine ev_aload_n dX8_init_39 rfl (by decide) ?_
  show Ev _ _ _ _ 40 130 _ _ [(2, 124)] [(2, (124 : Int))]
  refine ev_iconst dX8_init_40 (by decide) ?_
  show Ev _ _ _ _ 41 130 _ _ [(2, 124)] [(0, (5 : Int)), (2, (124 : Int))]
  refine ev_newl (N := 5) dX8_init_41 wylong sp130 (by decide) (by decide) ?_
  show Ev _ _ _ _ 43 131 _ _ [(2, 124)] [(2, (130 : Int)), (2, (124 : Int))]
  refine ev_putrF (j := 5) dX8_init_43 cf_X8 wf_X8_28 sp124 (by decide) (by decide) rfl rfl rfl rfl (fun z => absurd z (by decide +kernel)) ?_
  show Ev _ _ _ _ 46 131 _ _ [(2, 124)] []
  refine ev_aload_n dX8_init_46 rfl (by decide) ?_
  show Ev _ _ _ _ 47 131 _ _ [(2, 124)] [(2, (124 : Int))]
  refine ev_bipush dX8_init_47 (by decide) (by decide) ?_
  show Ev _ _ _ _ 49 131 _ _ [(2, 124)] [(0, (20 : Int)), (2, (124 : Int))]
  refine ev_newi (N := 20) dX8_init_49 wyint sp131 (by decide) (by decide) ?_
  show Ev _ _ _ _ 51 132 _ _ [(2, 124)] [(2, (131 : Int)), (2, (124 : Int))]
  refine ev_putrF (j := 6) dX8_init_51 cf_X8 wf_X8_32 sp124 (by decide) (by decide) rfl rfl rfl rfl (fun z => absurd z (by decide +kernel)) ?_
  show Ev _ _ _ _ 54 132 _ _ [(2, 124)] []
  refine ev_aload_n dX8_init_54 rfl (by decide) ?_
  show Ev _ _ _ _ 55 132 _ _ [(2, 124)] [(2, (124 : Int))]
  refine ev_bipush dX8_init_55 (by decide) (by decide) ?_
  show Ev _ _ _ _ 57 132 _ _ [(2, 124)] [(0, (20 : Int)), (2, (124 : Int))]
  refine ev_newi (N := 20) dX8_init_57 wyint sp132 (by decide) (by decide) ?_
  show Ev _ _ _ _ 59 133 _ _ [(2, 124)] [(2, (132 : Int)), (2, (124 : Int))]
  refine ev_putrF (j := 7) dX8_init_59 cf_X8 wf_X8_35 sp124 (by decide) (by decide) rfl rfl rfl rfl (fun z => absurd z (by decide +kernel)) ?_
  show Ev _ _ _ _ 62 133 _ _ [(2, 124)] []
  refine ev_aload_n dX8_init_62 rfl (by decide) ?_
  show Ev _ _ _ _ 63 133 _ _ [(2, 124)] [(2, (124 : Int))]
  refine ev_bipush dX8_init_63 (by decide) (by decide) ?_
  show Ev _ _ _ _ 65 133 _ _ [(2, 124)] [(0, (20 : Int)), (2, (124 : Int))]
  refine ev_newi (N := 20) dX8_init_65 wyint sp133 (by decide) (by decide) ?_
  show Ev _ _ _ _ 67 134 _ _ [(2, 124)] [(2, (133 : Int)), (2, (124 : Int))]
  refine ev_putrF (j := 8) dX8_init_67 cf_X8 wf_X8_38 sp124 (by decide) (by decide) rfl rfl rfl rfl (fun z => absurd z (by decide +kernel)) ?_
  show Ev _ _ _ _ 70 134 _ _ [(2, 124)] []
  exact ev_vret dX8_init_70 rfl rfl
def rc_X8_init_135 (ρ : Mem) : Mem := (mup (mup (mup (mup (mup (mup (mup (mup (mup ρ 134 0 135) 134 1 136) 134 2 137) 134 3 138) 134 4 139) 134 5 140) 134 6 141) 134 7 142) 134 8 143)
def sc_X8_init_135 (σ : Mem) : Mem := σ
set_option maxHeartbeats 4000000 in
set_option maxRecDepth 20000 in
theorem c_X8_init_135 (ρ σ : Mem) : Ms yX8_init M_X8_init 135 144 [(2, 134)] ρ σ (none, rc_X8_init_135 ρ, sc_X8_init_135 σ) := by
  refine Ms.of 0 (by decide +kernel) rfl (fun _ => rfl) (fun _ _ _ => trivial) rfl rfl ?_
  show Ev M_X8_init 135 144 _ 0 135 ρ σ [(2, 134)] []
  show Ev _ _ _ _ 0 135 _ _ [(2, 134)] []
  refine ev_aload_n dX8_init_0 rfl (by decide) ?_
  show Ev _ _ _ _ 1 135 _ _ [(2, 134)] [(2, (134 : Int))]
  refine ev_oinit dX8_init_1 wo_X8_3 wo_i wo_c (by decide) (by decide) (by decide) ?_
  show Ev _ _ _ _ 4 135 _ _ [(2, 134)] []
  refine ev_aload_n dX8_init_4 rfl (by decide) ?_
  show Ev _ _ _ _ 5 135 _ _ [(2, 134)] [(2, (134 : Int))]
  refine ev_iconst dX8_init_5 (by decide) ?_
  show Ev _ _ _ _ 6 135 _ _ [(2, 134)] [(0, (5 : Int)), (2, (134 : Int))]
  refine ev_newz (N := 5) dX8_init_6 wyboolean sp135 (by decide) (by decide) ?_
  show Ev _ _ _ _ 8 136 _ _ [(2, 134)] [(2, (135 : Int)), (2, (134 : Int))]
  refine ev_putrF (j := 0) dX8_init_8 cf_X8 wf_X8_9 sp134 (by decide) (by decide) rfl rfl rfl rfl (fun z => absurd z (by decide +kernel)) ?_
  show Ev _ _ _ _ 11 136 _ _ [(2, 134)] []
  refine ev_aload_n dX8_init_11 rfl (by decide) ?_
  show Ev _ _ _ _ 12 136 _ _ [(2, 134)] [(2, (134 : Int))]
  refine ev_iconst dX8_init_12 (by decide) ?_
  show Ev _ _ _ _ 13 136 _ _ [(2, 134)] [(0, (5 : Int)), (2, (134 : Int))]
  refine ev_newi (N := 5) dX8_init_13 wyint sp136 (by decide) (by decide) ?_
  show Ev _ _ _ _ 15 137 _ _ [(2, 134)] [(2, (136 : Int)), (2, (134 : Int))]
  refine ev_putrF (j := 1) dX8_init_15 cf_X8 wf_X8_15 sp134 (by decide) (by decide) rfl rfl rfl rfl (fun z => absurd z (by decide +kernel)) ?_
  show Ev _ _ _ _ 18 137 _ _ [(2, 134)] []
  refine ev_aload_n dX8_init_18 rfl (by decide) ?_
  show Ev _ _ _ _ 19 137 _ _ [(2, 134)] [(2, (134 : Int))]
  refine ev_iconst dX8_init_19 (by decide) ?_
  show Ev _ _ _ _ 20 137 _ _ [(2, 134)] [(0, (5 : Int)), (2, (134 : Int))]
  refine ev_newi (N := 5) dX8_init_20 wyint sp137 (by decide) (by decide) ?_
  show Ev _ _ _ _ 22 138 _ _ [(2, 134)] [(2, (137 : Int)), (2, (134 : Int))]
  refine ev_putrF (j := 2) dX8_init_22 cf_X8 wf_X8_19 sp134 (by decide) (by decide) rfl rfl rfl rfl (fun z => absurd z (by decide +kernel)) ?_
  show Ev _ _ _ _ 25 138 _ _ [(2, 134)] []
  refine ev_aload_n dX8_init_25 rfl (by decide) ?_
  show Ev _ _ _ _ 26 138 _ _ [(2, 134)] [(2, (134 : Int))]
  refine ev_iconst dX8_init_26 (by decide) ?_
  show Ev _ _ _ _ 27 138 _ _ [(2, 134)] [(0, (5 : Int)), (2, (134 : Int))]
  refine ev_newi (N := 5) dX8_init_27 wyint sp138 (by decide) (by decide) ?_
  show Ev _ _ _ _ 29 139 _ _ [(2, 134)] [(2, (138 : Int)), (2, (134 : Int))]
  refine ev_putrF (j := 3) dX8_init_29 cf_X8 wf_X8_22 sp134 (by decide) (by decide) rfl rfl rfl rfl (fun z => absurd z (by decide +kernel)) ?_
  show Ev _ _ _ _ 32 139 _ _ [(2, 134)] []
  refine ev_aload_n dX8_init_32 rfl (by decide) ?_
  show Ev _ _ _ _ 33 139 _ _ [(2, 134)] [(2, (134 : Int))]
  refine ev_iconst dX8_init_33 (by decide) ?_
  show Ev _ _ _ _ 34 139 _ _ [(2, 134)] [(0, (5 : Int)), (2, (134 : Int))]
  refine ev_newi (N := 5) dX8_init_34 wyint sp139 (by decide) (by decide) ?_
  show Ev _ _ _ _ 36 140 _ _ [(2, 134)] [(2, (139 : Int)), (2, (134 : Int))]
  refine ev_putrF (j := 4) dX8_init_36 cf_X8 wf_X8_25 sp134 (by decide) (by decide) rfl rfl rfl rfl (fun z => absurd z (by decide +kernel)) ?_
  show Ev _ _ _ _ 39 140 _ _ [(2, 134)] []
  refine ev_aload_n dX8_init_39 rfl (by decide) ?_
  show Ev _ _ _ _ 40 140 _ _ [(2, 134)] [(2, (134 : Int))]
  refine ev_iconst dX8_init_40 (by decide) ?_
  show Ev _ _ _ _ 41 140 _ _ [(2, 134)] [(0, (5 : Int)), (2, (134 : Int))]
  refine ev_newl (N := 5) dX8_init_41 wylong sp140 (by decide) (by decide) ?_
  show Ev _ _ _ _ 43 141 _ _ [(2, 134)] [(2, (140 : Int)), (2, (134 : Int))]
  refine ev_putrF (j := 5) dX8_init_43 cf_X8 wf_X8_28 sp134 (by decide) (by decide) rfl rfl rfl rfl (fun z => absurd z (by decide +kernel)) ?_
  show Ev _ _ _ _ 46 141 _ _ [(2, 134)] []
  refine ev_aload_n dX8_init_46 rfl (by decide) ?_
  show Ev _ _ _ _ 47 141 _ _ [(2, 134)] [(2, (134 : Int))]
  refine ev_bipush dX8_init_47 (by decide) (by decide) ?_
  show Ev _ _ _ _ 49 141 _ _ [(2, 134)] [(0, (20 : Int)), (2, (134 : Int))]
  refine ev_newi (N := 20) dX8_init_49 wyint sp141 (by decide) (by decide) ?_
  show Ev _ _ _ _ 51 142 _ _ [(2, 134)] [(2, (141 : Int)), (2, (134 : Int))]
  refine ev_putrF (j := 6) dX8_init_51 cf_X8 wf_X8_32 sp134 (by decide) (by decide) rfl rfl rfl rfl (fun z => absurd z (by decide +kernel)) ?_
  show Ev _ _ _ _ 54 142 _ _ [(2, 134)] []
  refine ev_aload_n dX8_init_54 rfl (by decide) ?_
  show Ev _ _ _ _ 55 142 _ _ [(2, 134)] [(2, (134 : Int))]
  refine ev_bipush dX8_init_55 (by decide) (by decide) ?_
  show Ev _ _ _ _ 57 142 _ _ [(2, 134)] [(0, (20 : Int)), (2, (134 : Int))]
  refine ev_newi (N := 20) dX8_init_57 wyint sp142 (by decide) (by decide) ?_
  show Ev _ _ _ _ 59 143 _ _ [(2, 134)] [(2, (142 : Int)), (2, (134 : Int))]
  refine ev_putrF (j := 7) dX8_init_59 cf_X8 wf_X8_35 sp134 (by decide) (by decide) rfl rfl rfl rfl (fun z => absurd z (by decide +kernel)) ?_
  show Ev _ _ _ _ 62 143 _ _ [(2, 134)] []
  refine ev_aload_n dX8_init_62 rfl (by decide) ?_
  show Ev _ _ _ _ 63 143 _ _ [(2, 134)] [(2, (134 : Int))]
  refine ev_bipush dX8_init_63 (by decide) (by decide) ?_
  show Ev _ _ _ _ 65 143 _ _ [(2, 134)] [(0, (20 : Int)), (2, (134 : Int))]
  refine ev_newi (N := 20) dX8_init_65 wyint sp143 (by decide) (by decide) ?_
  show Ev _ _ _ _ 67 144 _ _ [(2, 134)] [(2, (143 : Int)), (2, (134 : Int))]
  refine ev_putrF (j := 8) dX8_init_67 cf_X8 wf_X8_38 sp134 (by decide) (by decide) rfl rfl rfl rfl (fun z => absurd z (by decide +kernel)) ?_
  show Ev _ _ _ _ 70 144 _ _ [(2, 134)] []
  exact ev_vret dX8_init_70 rfl rfl
def rc_X8_init_145 (ρ : Mem) : Mem := (mup (mup (mup (mup (mup (mup (mup (mup (mup ρ 144 0 145) 144 1 146) 144 2 147) 144 3 148) 144 4 149) 144 5 150) 144 6 151) 144 7 152) 144 8 153)
def sc_X8_init_145 (σ : Mem) : Mem := σ
set_option maxHeartbeats 4000000 in
set_option maxRecDepth 20000 in
theorem c_X8_init_145 (ρ σ : Mem) : Ms yX8_init M_X8_init 145 154 [(2, 144)] ρ σ (none, rc_X8_init_145 ρ, sc_X8_init_145 σ) := by
  refine Ms.of 0 (by decide +kernel) rfl (fun _ => rfl) (fun _ _ _ => trivial) rfl rfl ?_
  show Ev M_X8_init 145 154 _ 0 145 ρ σ [(2, 144)] []
  show Ev _ _ _ _ 0 145 _ _ [(2, 144)] []
  refine ev_aload_n dX8_init_0 rfl (by decide) ?_
  show Ev _ _ _ _ 1 145 _ _ [(2, 144)] [(2, (144 : Int))]
  refine ev_oinit dX8_init_1 wo_X8_3 wo_i wo_c (by decide) (by decide) (by decide) ?_
  show Ev _ _ _ _ 4 145 _ _ [(2, 144)] []
  refine ev_aload_n dX8_init_4 rfl (by decide) ?_
  show Ev _ _ _ _ 5 145 _ _ [(2, 144)] [(2, (144 : Int))]
  refine ev_iconst dX8_init_5 (by decide) ?_
  show Ev _ _ _ _ 6 145 _ _ [(2, 144)] [(0, (5 : Int)), (2, (144 : Int))]
  refine ev_newz (N := 5) dX8_init_6 wyboolean sp145 (by decide) (by decide) ?_
  show Ev _ _ _ _ 8 146 _ _ [(2, 144)] [(2, (145 : Int)), (2, (144 : Int))]
  refine ev_putrF (j := 0) dX8_init_8 cf_X8 wf_X8_9 sp144 (by decide) (by decide) rfl rfl rfl rfl (fun z => absurd z (by decide +kernel)) ?_
  show Ev _ _ _ _ 11 146 _ _ [(2, 144)] []
  refine ev_aload_n dX8_init_11 rfl (by decide) ?_
  show Ev _ _ _ _ 12 146 _ _ [(2, 144)] [(2, (144 : Int))]
  refine ev_iconst dX8_init_12 (by decide) ?_
  show Ev _ _ _ _ 13 146 _ _ [(2, 144)] [(0, (5 : Int)), (2, (144 : Int))]
  refine ev_newi (N := 5) dX8_init_13 wyint sp146 (by decide) (by decide) ?_
  show Ev _ _ _ _ 15 147 _ _ [(2, 144)] [(2, (146 : Int)), (2, (144 : Int))]
  refine ev_putrF (j := 1) dX8_init_15 cf_X8 wf_X8_15 sp144 (by decide) (by decide) rfl rfl rfl rfl (fun z => absurd z (by decide +kernel)) ?_
  show Ev _ _ _ _ 18 147 _ _ [(2, 144)] []
  refine ev_aload_n dX8_init_18 rfl (by decide) ?_
  show Ev _ _ _ _ 19 147 _ _ [(2, 144)] [(2, (144 : Int))]
  refine ev_iconst dX8_init_19 (by decide) ?_
  show Ev _ _ _ _ 20 147 _ _ [(2, 144)] [(0, (5 : Int)), (2, (144 : Int))]
  refine ev_newi (N := 5) dX8_init_20 wyint sp147 (by decide) (by decide) ?_
  show Ev _ _ _ _ 22 148 _ _ [(2, 144)] [(2, (147 : Int)), (2, (144 : Int))]
  refine ev_putrF (j := 2) dX8_init_22 cf_X8 wf_X8_19 sp144 (by decide) (by decide) rfl rfl rfl rfl (fun z => absurd z (by decide +kernel)) ?_
  show Ev _ _ _ _ 25 148 _ _ [(2, 144)] []
  refine ev_aload_n dX8_init_25 rfl (by decide) ?_
  show Ev _ _ _ _ 26 148 _ _ [(2, 144)] [(2, (144 : Int))]
  refine ev_iconst dX8_init_26 (by decide) ?_
  show Ev _ _ _ _ 27 148 _ _ [(2, 144)] [(0, (5 : Int)), (2, (144 : Int))]
  refine ev_newi (N := 5) dX8_init_27 wyint sp148 (by decide) (by decide) ?_
  show Ev _ _ _ _ 29 149 _ _ [(2, 144)] [(2, (148 : Int)), (2, (144 : Int))]
  refine ev_putrF (j := 3) dX8_init_29 cf_X8 wf_X8_22 sp144 (by decide) (by decide) rfl rfl rfl rfl (fun z => absurd z (by decide +kernel)) ?_
  show Ev _ _ _ _ 32 149 _ _ [(2, 144)] []
  refine ev_aload_n dX8_init_32 rfl (by decide) ?_
  show Ev _ _ _ _ 33 149 _ _ [(2, 144)] [(2, (144 : Int))]
  refine ev_iconst dX8_init_33 (by decide) ?_
  show Ev _ _ _ _ 34 149 _ _ [(2, 144)] [(0, (5 : Int)), (2, (144 : Int))]
  refine ev_newi (N := 5) dX8_init_34 wyint sp149 (by decide) (by decide) ?_
  show Ev _ _ _ _ 36 150 _ _ [(2, 144)] [(2, (149 : Int)), (2, (144 : Int))]
  refine ev_putrF (j := 4) dX8_init_36 cf_X8 wf_X8_25 sp144 (by decide) (by decide) rfl rfl rfl rfl (fun z => absurd z (by decide +kernel)) ?_
  show Ev _ _ _ _ 39 150 _ _ [(2, 144)] []
  refine ev_aload_n dX8_init_39 rfl (by decide) ?_
  show Ev _ _ _ _ 40 150 _ _ [(2, 144)] [(2, (144 : Int))]
  refine ev_iconst dX8_init_40 (by decide) ?_
  show Ev _ _ _ _ 41 150 _ _ [(2, 144)] [(0, (5 : Int)), (2, (144 : Int))]
  refine ev_newl (N := 5) dX8_init_41 wylong sp150 (by decide) (by decide) ?_
  show Ev _ _ _ _ 43 151 _ _ [(2, 144)] [(2, (150 : Int)), (2, (144 : Int))]
  refine ev_putrF (j := 5) dX8_init_43 cf_X8 wf_X8_28 sp144 (by decide) (by decide) rfl rfl rfl rfl (fun z => absurd z (by decide +kernel)) ?_
  show Ev _ _ _ _ 46 151 _ _ [(2, 144)] []
  refine ev_aload_n dX8_init_46 rfl (by decide) ?_
  show Ev _ _ _ _ 47 151 _ _ [(2, 144)] [(2, (144 : Int))]
  refine ev_bipush dX8_init_47 (by decide) (by decide) ?_
  show Ev _ _ _ _ 49 151 _ _ [(2, 144)] [(0, (20 : Int)), (2, (144 : Int))]
  refine ev_newi (N := 20) dX8_init_49 wyint sp151 (by decide) (by decide) ?_
  show Ev _ _ _ _ 51 152 _ _ [(2, 144)] [(2, (151 : Int)), (2, (144 : Int))]
  refine ev_putrF (j := 6) dX8_init_51 cf_X8 wf_X8_32 sp144 (by decide) (by decide) rfl rfl rfl rfl (fun z => absurd z (by decide +kernel)) ?_
  show Ev _ _ _ _ 54 152 _ _ [(2, 144)] []
  refine ev_aload_n dX8_init_54 rfl (by decide) ?_
  show Ev _ _ _ _ 55 152 _ _ [(2, 144)] [(2, (144 : Int))]
  refine ev_bipush dX8_init_55 (by decide) (by decide) ?_
  show Ev _ _ _ _ 57 152 _ _ [(2, 144)] [(0, (20 : Int)), (2, (144 : Int))]
  refine ev_newi (N := 20) dX8_init_57 wyint sp152 (by decide) (by decide) ?_
  show Ev _ _ _ _ 59 153 _ _ [(2, 144)] [(2, (152 : Int)), (2, (144 : Int))]
  refine ev_putrF (j := 7) dX8_init_59 cf_X8 wf_X8_35 sp144 (by decide) (by decide) rfl rfl rfl rfl (fun z => absurd z (by decide +kernel)) ?_
  show Ev _ _ _ _ 62 153 _ _ [(2, 144)] []
  refine ev_aload_n dX8_init_62 rfl (by decide) ?_
  show Ev _ _ _ _ 63 153 _ _ [(2, 144)] [(2, (144 : Int))]
  refine ev_bipush dX8_init_63 (by decide) (by decide) ?_
  show Ev _ _ _ _ 65 153 _ _ [(2, 144)] [(0, (20 : Int)), (2, (144 : Int))]
  refine ev_newi (N := 20) dX8_init_65 wyint sp153 (by decide) (by decide) ?_
  show Ev _ _ _ _ 67 154 _ _ [(2, 144)] [(2, (153 : Int)), (2, (144 : Int))]
  refine ev_putrF (j := 8) dX8_init_67 cf_X8 wf_X8_38 sp144 (by decide) (by decide) rfl rfl rfl rfl (fun z => absurd z (by decide +kernel)) ?_
  show Ev _ _ _ _ 70 154 _ _ [(2, 144)] []
  exact ev_vret dX8_init_70 rfl rfl
def rc_X9_init_44 (ρ : Mem) : Mem := (mup (rc_X8_init_145 (mup (rc_X8_init_135 (mup (rc_X8_init_125 (mup (rc_X8_init_115 (mup (rc_X8_init_105 (mup (rc_X8_init_95 (mup (rc_X8_init_85 (mup (rc_X8_init_75 (mup (rc_X8_init_65 (mup (rc_X8_init_55 (mup (mup (mup (rc_X4_init_45 ρ) 43 0 44) 43 1 52) 43 2 53)) 52 0 54)) 52 1 64)) 52 2 74)) 52 3 84)) 52 4 94)) 52 5 104)) 52 6 114)) 52 7 124)) 52 8 134)) 52 9 144)
def sc_X9_init_44 (σ : Mem) : Mem := (sc_X8_init_145 (sc_X8_init_135 (sc_X8_init_125 (sc_X8_init_115 (sc_X8_init_105 (sc_X8_init_95 (sc_X8_init_85 (sc_X8_init_75 (sc_X8_init_65 (sc_X8_init_55 (mup (sc_X4_init_45 σ) 43 3 (1))))))))))))
set_option maxHeartbeats 4000000 in
set_option maxRecDepth 20000 in
theorem c_X9_init_44 (ρ σ : Mem) : Ms yX9_init M_X9_init 44 154 [(2, 43)] ρ σ (none, rc_X9_init_44 ρ, sc_X9_init_44 σ) := by
  refine Ms.of 1 (by decide +kernel) rfl (fun _ => rfl) (fun _ _ _ => trivial) rfl rfl ?_
  show Ev M_X9_init 44 154 _ 0 44 ρ σ [(2, 43), (9, 0)] []
  show Ev _ _ _ _ 0 44 _ _ [(2, 43), (9, 0)] []
  refine ev_aload_n dX9_init_0 rfl (by decide) ?_
  show Ev _ _ _ _ 1 44 _ _ [(2, 43), (9, 0)] [(2, (43 : Int))]
  refine ev_oinit dX9_init_1 wo_X9_3 wo_i wo_c (by decide) (by decide) (by decide) ?_
  show Ev _ _ _ _ 4 44 _ _ [(2, 43), (9, 0)] []
  refine ev_aload_n dX9_init_4 rfl (by decide) ?_
  show Ev _ _ _ _ 5 44 _ _ [(2, 43), (9, 0)] [(2, (43 : Int))]
  refine ev_new dX9_init_5 cf_X4 wk_X9_9 wi_X4 wz_X4 sp44 (by decide) ?_
  show Ev _ _ _ _ 8 45 _ _ [(2, 43), (9, 0)] [(2, (44 : Int)), (2, (43 : Int))]
  refine ev_dup dX9_init_8 (show (2 : Nat) ≠ 1 by decide) ?_
  show Ev _ _ _ _ 9 45 _ _ [(2, 43), (9, 0)] [(2, (44 : Int)), (2, (44 : Int)), (2, (43 : Int))]
  refine ev_invIN (k := 44) (av := []) (st := [(2, (44 : Int)), (2, (43 : Int))]) dX9_init_9 ml_X9_11 mi_X4_init rfl (by decide) rfl rfl ⟨Nat.le_of_ble_eq_true rfl, Nat.le_of_ble_eq_true rfl⟩ (Nat.le_of_ble_eq_true rfl) (c_X4_init_45 _ _) ⟨by decide, by decide⟩ ?_
  show Ev _ _ _ _ 12 52 (rc_X4_init_45 _) (sc_X4_init_45 _) _ _
  show Ev _ _ _ _ 12 52 _ _ [(2, 43), (9, 0)] [(2, (44 : Int)), (2, (43 : Int))]
  refine ev_putrF (j := 0) dX9_init_12 cf_X9 wf_X9_12 sp43 (by decide) (by decide) rfl rfl rfl rfl (fun z => absurd z (by decide +kernel)) ?_
  show Ev _ _ _ _ 15 52 _ _ [(2, 43), (9, 0)] []
  refine ev_aload_n dX9_init_15 rfl (by decide) ?_
  show Ev _ _ _ _ 16 52 _ _ [(2, 43), (9, 0)] [(2, (43 : Int))]
  refine ev_bipush dX9_init_16 (by decide) (by decide) ?_
  show Ev _ _ _ _ 18 52 _ _ [(2, 43), (9, 0)] [(0, (10 : Int)), (2, (43 : Int))]
  refine ev_newq (N := 10) dX9_init_18 wk_X9_18 sp52 (by decide) (by decide) ?_
  show Ev _ _ _ _ 21 53 _ _ [(2, 43), (9, 0)] [(2, (52 : Int)), (2, (43 : Int))]
  refine ev_putrF (j := 1) dX9_init_21 cf_X9 wf_X9_20 sp43 (by decide) (by decide) rfl rfl rfl rfl (fun z => absurd z (by decide +kernel)) ?_
  show Ev _ _ _ _ 24 53 _ _ [(2, 43), (9, 0)] []
  refine ev_aload_n dX9_init_24 rfl (by decide) ?_
  show Ev _ _ _ _ 25 53 _ _ [(2, 43), (9, 0)] [(2, (43 : Int))]
  refine ev_bipush dX9_init_25 (by decide) (by decide) ?_
  show Ev _ _ _ _ 27 53 _ _ [(2, 43), (9, 0)] [(0, (10 : Int)), (2, (43 : Int))]
  refine ev_newz (N := 10) dX9_init_27 wyboolean sp53 (by decide) (by decide) ?_
  show Ev _ _ _ _ 29 54 _ _ [(2, 43), (9, 0)] [(2, (53 : Int)), (2, (43 : Int))]
  refine ev_putrF (j := 2) dX9_init_29 cf_X9 wf_X9_24 sp43 (by decide) (by decide) rfl rfl rfl rfl (fun z => absurd z (by decide +kernel)) ?_
  show Ev _ _ _ _ 32 54 _ _ [(2, 43), (9, 0)] []
  refine ev_aload_n dX9_init_32 rfl (by decide) ?_
  show Ev _ _ _ _ 33 54 _ _ [(2, 43), (9, 0)] [(2, (43 : Int))]
  refine ev_iconst dX9_init_33 (by decide) ?_
  show Ev _ _ _ _ 34 54 _ _ [(2, 43), (9, 0)] [(0, (1 : Int)), (2, (43 : Int))]
  refine ev_putf (j := 3) (t := 0) dX9_init_34 cf_X9 wf_X9_28 sp43 (by decide) (by decide) rfl (by decide) (by decide) rfl (fun z => absurd z (by decide +kernel)) ?_
  show Ev _ _ _ _ 37 54 _ _ [(2, 43), (9, 0)] []
  refine ev_iconst dX9_init_37 (by decide) ?_
  show Ev _ _ _ _ 38 54 _ _ [(2, 43), (9, 0)] [(0, (0 : Int))]
  refine ev_istore_n dX9_init_38 rfl (by decide) ?_
  show Ev _ _ _ _ 39 54 _ _ [(2, 43), (0, 0)] []
  refine ev_iload_n dX9_init_39 rfl ?_
  show Ev _ _ _ _ 40 54 _ _ [(2, 43), (0, 0)] [(0, (0 : Int))]
  refine ev_bipush dX9_init_40 (by decide) (by decide) ?_
  show Ev _ _ _ _ 42 54 _ _ [(2, 43), (0, 0)] [(0, (10 : Int)), (0, (0 : Int))]
  refine ev_icmp_ge (tgt := 64) (X := some ()) (Y := some ()) (q := ()) dX9_init_42 rfl (by split <;> rfl) (fun z => absurd z (by decide)) (fun _ _ => ?_)
  show Ev _ _ _ _ 45 54 _ _ [(2, 43), (0, 0)] []
  refine ev_aload_n dX9_init_45 rfl (by decide) ?_
  show Ev _ _ _ _ 46 54 _ _ [(2, 43), (0, 0)] [(2, (43 : Int))]
  refine ev_getf (j := 1) (t := 2) (x := (52 : Int)) dX9_init_46 cf_X9 wf_X9_20 sp43 (by decide) (by decide) rfl (by decide) rfl ?_
  show Ev _ _ _ _ 49 54 _ _ [(2, 43), (0, 0)] [(2, (52 : Int))]
  refine ev_iload_n dX9_init_49 rfl ?_
  show Ev _ _ _ _ 50 54 _ _ [(2, 43), (0, 0)] [(0, (0 : Int)), (2, (52 : Int))]
  refine ev_new dX9_init_50 cf_X8 wk_X9_18 wi_X8 wz_X8 sp54 (by decide) ?_
  show Ev _ _ _ _ 53 55 _ _ [(2, 43), (0, 0)] [(2, (54 : Int)), (0, (0 : Int)), (2, (52 : Int))]
  refine ev_dup dX9_init_53 (show (2 : Nat) ≠ 1 by decide) ?_
  show Ev _ _ _ _ 54 55 _ _ [(2, 43), (0, 0)] [(2, (54 : Int)), (2, (54 : Int)), (0, (0 : Int)), (2, (52 : Int))]
  refine ev_invIN (k := 54) (av := []) (st := [(2, (54 : Int)), (0, (0 : Int)), (2, (52 : Int))]) dX9_init_54 ml_X9_32 mi_X8_init rfl (by decide) rfl rfl ⟨Nat.le_of_ble_eq_true rfl, Nat.le_of_ble_eq_true rfl⟩ (Nat.le_of_ble_eq_true rfl) (c_X8_init_55 _ _) ⟨by decide, by decide⟩ ?_
  show Ev _ _ _ _ 57 64 (rc_X8_init_55 _) (sc_X8_init_55 _) _ _
  show Ev _ _ _ _ 57 64 _ _ [(2, 43), (0, 0)] [(2, (54 : Int)), (0, (0 : Int)), (2, (52 : Int))]
  refine ev_aast (ci := 7) dX9_init_57 rfl sp52 (by decide) (by decide) sp54 (by decide) (by decide) ⟨by decide, by decide⟩ ?_
  show Ev _ _ _ _ 58 64 _ _ [(2, 43), (0, 0)] []
  refine ev_iinc dX9_init_58 rfl rfl ?_
  rw [show jadd (0 : Int) (1 : Int) = 1 by decide +kernel]
  show Ev _ _ _ _ 61 64 _ _ [(2, 43), (0, 1)] []
  refine ev_goto (tgt := 39) dX9_init_61 rfl ?_
  show Ev _ _ _ _ 39 64 _ _ [(2, 43), (0, 1)] []
  refine ev_iload_n dX9_init_39 rfl ?_
  show Ev _ _ _ _ 40 64 _ _ [(2, 43), (0, 1)] [(0, (1 : Int))]
  refine ev_bipush dX9_init_40 (by decide) (by decide) ?_
  show Ev _ _ _ _ 42 64 _ _ [(2, 43), (0, 1)] [(0, (10 : Int)), (0, (1 : Int))]
  refine ev_icmp_ge (tgt := 64) (X := some ()) (Y := some ()) (q := ()) dX9_init_42 rfl (by split <;> rfl) (fun z => absurd z (by decide)) (fun _ _ => ?_)
  show Ev _ _ _ _ 45 64 _ _ [(2, 43), (0, 1)] []
  refine ev_aload_n dX9_init_45 rfl (by decide) ?_
  show Ev _ _ _ _ 46 64 _ _ [(2, 43), (0, 1)] [(2, (43 : Int))]
  refine ev_getf (j := 1) (t := 2) (x := (52 : Int)) dX9_init_46 cf_X9 wf_X9_20 sp43 (by decide) (by decide) rfl (by decide) rfl ?_
  show Ev _ _ _ _ 49 64 _ _ [(2, 43), (0, 1)] [(2, (52 : Int))]
  refine ev_iload_n dX9_init_49 rfl ?_
  show Ev _ _ _ _ 50 64 _ _ [(2, 43), (0, 1)] [(0, (1 : Int)), (2, (52 : Int))]
  refine ev_new dX9_init_50 cf_X8 wk_X9_18 wi_X8 wz_X8 sp64 (by decide) ?_
  show Ev _ _ _ _ 53 65 _ _ [(2, 43), (0, 1)] [(2, (64 : Int)), (0, (1 : Int)), (2, (52 : Int))]
  refine ev_dup dX9_init_53 (show (2 : Nat) ≠ 1 by decide) ?_
  show Ev _ _ _ _ 54 65 _ _ [(2, 43), (0, 1)] [(2, (64 : Int)), (2, (64 : Int)), (0, (1 : Int)), (2, (52 : Int))]
  refine ev_invIN (k := 64) (av := []) (st := [(2, (64 : Int)), (0, (1 : Int)), (2, (52 : Int))]) dX9_init_54 ml_X9_32 mi_X8_init rfl (by decide) rfl rfl ⟨Nat.le_of_ble_eq_true rfl, Nat.le_of_ble_eq_true rfl⟩ (Nat.le_of_ble_eq_true rfl) (c_X8_init_65 _ _) ⟨by decide, by decide⟩ ?_
  show Ev _ _ _ _ 57 74 (rc_X8_init_65 _) (sc_X8_init_65 _) _ _
  show Ev _ _ _ _ 57 74 _ _ [(2, 43), (0, 1)] [(2, (64 : Int)), (0, (1 : Int)), (2, (52 : Int))]
  refine ev_aast (ci := 7) dX9_init_57 rfl sp52 (by decide) (by decide) sp64 (by decide) (by decide) ⟨by decide, by decide⟩ ?_
  show Ev _ _ _ _ 58 74 _ _ [(2, 43), (0, 1)] []
  refine ev_iinc dX9_init_58 rfl rfl ?_
  rw [show jadd (1 : Int) (1 : Int) = 2 by decide +kernel]
  show Ev _ _ _ _ 61 74 _ _ [(2, 43), (0, 2)] []
  refine ev_goto (tgt := 39) dX9_init_61 rfl ?_
  show Ev _ _ _ _ 39 74 _ _ [(2, 43), (0, 2)] []
  refine ev_iload_n dX9_init_39 rfl ?_
  show Ev _ _ _ _ 40 74 _ _ [(2, 43), (0, 2)] [(0, (2 : Int))]
  refine ev_bipush dX9_init_40 (by decide) (by decide) ?_
  show Ev _ _ _ _ 42 74 _ _ [(2, 43), (0, 2)] [(0, (10 : Int)), (0, (2 : Int))]
  refine ev_icmp_ge (tgt := 64) (X := some ()) (Y := some ()) (q := ()) dX9_init_42 rfl (by split <;> rfl) (fun z => absurd z (by decide)) (fun _ _ => ?_)
  show Ev _ _ _ _ 45 74 _ _ [(2, 43), (0, 2)] []
  refine ev_aload_n dX9_init_45 rfl (by decide) ?_
  show Ev _ _ _ _ 46 74 _ _ [(2, 43), (0, 2)] [(2, (43 : Int))]
  refine ev_getf (j := 1) (t := 2) (x := (52 : Int)) dX9_init_46 cf_X9 wf_X9_20 sp43 (by decide) (by decide) rfl (by decide) rfl ?_
  show Ev _ _ _ _ 49 74 _ _ [(2, 43), (0, 2)] [(2, (52 : Int))]
  refine ev_iload_n dX9_init_49 rfl ?_
  show Ev _ _ _ _ 50 74 _ _ [(2, 43), (0, 2)] [(0, (2 : Int)), (2, (52 : Int))]
  refine ev_new dX9_init_50 cf_X8 wk_X9_18 wi_X8 wz_X8 sp74 (by decide) ?_
  show Ev _ _ _ _ 53 75 _ _ [(2, 43), (0, 2)] [(2, (74 : Int)), (0, (2 : Int)), (2, (52 : Int))]
  refine ev_dup dX9_init_53 (show (2 : Nat) ≠ 1 by decide) ?_
  show Ev _ _ _ _ 54 75 _ _ [(2, 43), (0, 2)] [(2, (74 : Int)), (2, (74 : Int)), (0, (2 : Int)), (2, (52 : Int))]
  refine ev_invIN (k := 74) (av := []) (st := [(2, (74 : Int)), (0, (2 : Int)), (2, (52 : Int))]) dX9_init_54 ml_X9_32 mi_X8_init rfl (by decide) rfl rfl ⟨Nat.le_of_ble_eq_true rfl, Nat.le_of_ble_eq_true rfl⟩ (Nat.le_of_ble_eq_true rfl) (c_X8_init_75 _ _) ⟨by decide, by decide⟩ ?_
  show Ev _ _ _ _ 57 84 (rc_X8_init_75 _) (sc_X8_init_75 _) _ _
  show Ev _ _ _ _ 57 84 _ _ [(2, 43), (0, 2)] [(2, (74 : Int)), (0, (2 : Int)), (2, (52 : Int))]
  refine ev_aast (ci := 7) dX9_init_57 rfl sp52 (by decide) (by decide) sp74 (by decide) (by decide) ⟨by decide, by decide⟩ ?_
  show Ev _ _ _ _ 58 84 _ _ [(2, 43), (0, 2)] []
  refine ev_iinc dX9_init_58 rfl rfl ?_
  rw [show jadd (2 : Int) (1 : Int) = 3 by decide +kernel]
  show Ev _ _ _ _ 61 84 _ _ [(2, 43), (0, 3)] []
  refine ev_goto (tgt := 39) dX9_init_61 rfl ?_
  show Ev _ _ _ _ 39 84 _ _ [(2, 43), (0, 3)] []
  refine ev_iload_n dX9_init_39 rfl ?_
  show Ev _ _ _ _ 40 84 _ _ [(2, 43), (0, 3)] [(0, (3 : Int))]
  refine ev_bipush dX9_init_40 (by decide) (by decide) ?_
  show Ev _ _ _ _ 42 84 _ _ [(2, 43), (0, 3)] [(0, (10 : Int)), (0, (3 : Int))]
  refine ev_icmp_ge (tgt := 64) (X := some ()) (Y := some ()) (q := ()) dX9_init_42 rfl (by split <;> rfl) (fun z => absurd z (by decide)) (fun _ _ => ?_)
  show Ev _ _ _ _ 45 84 _ _ [(2, 43), (0, 3)] []
  refine ev_aload_n dX9_init_45 rfl (by decide) ?_
  show Ev _ _ _ _ 46 84 _ _ [(2, 43), (0, 3)] [(2, (43 : Int))]
  refine ev_getf (j := 1) (t := 2) (x := (52 : Int)) dX9_init_46 cf_X9 wf_X9_20 sp43 (by decide) (by decide) rfl (by decide) rfl ?_
  show Ev _ _ _ _ 49 84 _ _ [(2, 43), (0, 3)] [(2, (52 : Int))]
  refine ev_iload_n dX9_init_49 rfl ?_
  show Ev _ _ _ _ 50 84 _ _ [(2, 43), (0, 3)] [(0, (3 : Int)), (2, (52 : Int))]
  refine ev_new dX9_init_50 cf_X8 wk_X9_18 wi_X8 wz_X8 sp84 (by decide) ?_
  show Ev _ _ _ _ 53 85 _ _ [(2, 43), (0, 3)] [(2, (84 : Int)), (0, (3 : Int)), (2, (52 : Int))]
  refine ev_dup dX9_init_53 (show (2 : Nat) ≠ 1 by decide) ?_
  show Ev _ _ _ _ 54 85 _ _ [(2, 43), (0, 3)] [(2, (84 : Int)), (2, (84 : Int)), (0, (3 : Int)), (2, (52 : Int))]
  refine ev_invIN (k := 84) (av := []) (st := [(2, (84 : Int)), (0, (3 : Int)), (2, (52 : Int))]) dX9_init_54 ml_X9_32 mi_X8_init rfl (by decide) rfl rfl ⟨Nat.le_of_ble_eq_true rfl, Nat.le_of_ble_eq_true rfl⟩ (Nat.le_of_ble_eq_true rfl) (c_X8_init_85 _ _) ⟨by decide, by decide⟩ ?_
  show Ev _ _ _ _ 57 94 (rc_X8_init_85 _) (sc_X8_init_85 _) _ _
  show Ev _ _ _ _ 57 94 _ _ [(2, 43), (0, 3)] [(2, (84 : Int)), (0, (3 : Int)), (2, (52 : Int))]
  refine ev_aast (ci := 7) dX9_init_57 rfl sp52 (by decide) (by decide) sp84 (by decide) (by decide) ⟨by decide, by decide⟩ ?_
  show Ev _ _ _ _ 58 94 _ _ [(2, 43), (0, 3)] []
  refine ev_iinc dX9_init_58 rfl rfl ?_
  rw [show jadd (3 : Int) (1 : Int) = 4 by decide +kernel]
  show Ev _ _ _ _ 61 94 _ _ [(2, 43), (0, 4)] []
  refine ev_goto (tgt := 39) dX9_init_61 rfl ?_
  show Ev _ _ _ _ 39 94 _ _ [(2, 43), (0, 4)] []
  refine ev_iload_n dX9_init_39 rfl ?_
  show Ev _ _ _ _ 40 94 _ _ [(2, 43), (0, 4)] [(0, (4 : Int))]
  refine ev_bipush dX9_init_40 (by decide) (by decide) ?_
  show Ev _ _ _ _ 42 94 _ _ [(2, 43), (0, 4)] [(0, (10 : Int)), (0, (4 : Int))]
  refine ev_icmp_ge (tgt := 64) (X := some ()) (Y := some ()) (q := ()) dX9_init_42 rfl (by split <;> rfl) (fun z => absurd z (by decide)) (fun _ _ => ?_)
  show Ev _ _ _ _ 45 94 _ _ [(2, 43), (0, 4)] []
  refine ev_aload_n dX9_init_45 rfl (by decide) ?_
  show Ev _ _ _ _ 46 94 _ _ [(2, 43), (0, 4)] [(2, (43 : Int))]
  refine ev_getf (j := 1) (t := 2) (x := (52 : Int)) dX9_init_46 cf_X9 wf_X9_20 sp43 (by decide) (by decide) rfl (by decide) rfl ?_
  show Ev _ _ _ _ 49 94 _ _ [(2, 43), (0, 4)] [(2, (52 : Int))]
  refine ev_iload_n dX9_init_49 rfl ?_
  show Ev _ _ _ _ 50 94 _ _ [(2, 43), (0, 4)] [(0, (4 : Int)), (2, (52 : Int))]
  refine ev_new dX9_init_50 cf_X8 wk_X9_18 wi_X8 wz_X8 sp94 (by decide) ?_
  show Ev _ _ _ _ 53 95 _ _ [(2, 43), (0, 4)] [(2, (94 : Int)), (0, (4 : Int)), (2, (52 : Int))]
  refine ev_dup dX9_init_53 (show (2 : Nat) ≠ 1 by decide) ?_
  show Ev _ _ _ _ 54 95 _ _ [(2, 43), (0, 4)] [(2, (94 : Int)), (2, (94 : Int)), (0, (4 : Int)), (2, (52 : Int))]
  refine ev_invIN (k := 94) (av := []) (st := [(2, (94 : Int)), (0, (4 : Int)), (2, (52 : Int))]) dX9_init_54 ml_X9_32 mi_X8_init rfl (by decide) rfl rfl ⟨Nat.le_of_ble_eq_true rfl, Nat.le_of_ble_eq_true rfl⟩ (Nat.le_of_ble_eq_true rfl) (c_X8_init_95 _ _) ⟨by decide, by decide⟩ ?_
  show Ev _ _ _ _ 57 104 (rc_X8_init_95 _) (sc_X8_init_95 _) _ _
  show Ev _ _ _ _ 57 104 _ _ [(2, 43), (0, 4)] [(2, (94 : Int)), (0, (4 : Int)), (2, (52 : Int))]
  refine ev_aast (ci := 7) dX9_init_57 rfl sp52 (by decide) (by decide) sp94 (by decide) (by decide) ⟨by decide, by decide⟩ ?_
  show Ev _ _ _ _ 58 104 _ _ [(2, 43), (0, 4)] []
  refine ev_iinc dX9_init_58 rfl rfl ?_
  rw [show jadd (4 : Int) (1 : Int) = 5 by decide +kernel]
  show Ev _ _ _ _ 61 104 _ _ [(2, 43), (0, 5)] []
  refine ev_goto (tgt := 39) dX9_init_61 rfl ?_
  show Ev _ _ _ _ 39 104 _ _ [(2, 43), (0, 5)] []
  refine ev_iload_n dX9_init_39 rfl ?_
  show Ev _ _ _ _ 40 104 _ _ [(2, 43), (0, 5)] [(0, (5 : Int))]
  refine ev_bipush dX9_init_40 (by decide) (by decide) ?_
  show Ev _ _ _ _ 42 104 _ _ [(2, 43), (0, 5)] [(0, (10 : Int)), (0, (5 : Int))]
  refine ev_icmp_ge (tgt := 64) (X := some ()) (Y := some ()) (q := ()) dX9_init_42 rfl (by split <;> rfl) (fun z => absurd z (by decide)) (fun _ _ => ?_)
  show Ev _ _ _ _ 45 104 _ _ [(2, 43), (0, 5)] []
  refine ev_aload_n dX9_init_45 rfl (by decide) ?_
  show Ev _ _ _ _ 46 104 _ _ [(2, 43), (0, 5)] [(2, (43 : Int))]
  refine ev_getf (j := 1) (t := 2) (x := (52 : Int)) dX9_init_46 cf_X9 wf_X9_20 sp43 (by decide) (by decide) rfl (by decide) rfl ?_
  show Ev _ _ _ _ 49 104 _ _ [(2, 43), (0, 5)] [(2, (52 : Int))]
  refine ev_iload_n dX9_init_49 rfl ?_
  show Ev _ _ _ _ 50 104 _ _ [(2, 43), (0, 5)] [(0, (5 : Int)), (2, (52 : Int))]
  refine ev_new dX9_init_50 cf_X8 wk_X9_18 wi_X8 wz_X8 sp104 (by decide) ?_
  show Ev _ _ _ _ 53 105 _ _ [(2, 43), (0, 5)] [(2, (104 : Int)), (0, (5 : Int)), (2, (52 : Int))]
  refine ev_dup dX9_init_53 (show (2 : Nat) ≠ 1 by decide) ?_
  show Ev _ _ _ _ 54 105 _ _ [(2, 43), (0, 5)] [(2, (104 : Int)), (2, (104 : Int)), (0, (5 : Int)), (2, (52 : Int))]
  refine ev_invIN (k := 104) (av := []) (st := [(2, (104 : Int)), (0, (5 : Int)), (2, (52 : Int))]) dX9_init_54 ml_X9_32 mi_X8_init rfl (by decide) rfl rfl ⟨Nat.le_of_ble_eq_true rfl, Nat.le_of_ble_eq_true rfl⟩ (Nat.le_of_ble_eq_true rfl) (c_X8_init_105 _ _) ⟨by decide, by decide⟩ ?_
  show Ev _ _ _ _ 57 114 (rc_X8_init_105 _) (sc_X8_init_105 _) _ _
  show Ev _ _ _ _ 57 114 _ _ [(2, 43), (0, 5)] [(2, (104 : Int)), (0, (5 : Int)), (2, (52 : Int))]
  refine ev_aast (ci := 7) dX9_init_57 rfl sp52 (by decide) (by decide) sp104 (by decide) (by decide) ⟨by decide, by decide⟩ ?_
  show Ev _ _ _ _ 58 114 _ _ [(2, 43), (0, 5)] []
  refine ev_iinc dX9_init_58 rfl rfl ?_
  rw [show jadd (5 : Int) (1 : Int) = 6 by decide +kernel]
  show Ev _ _ _ _ 61 114 _ _ [(2, 43), (0, 6)] []
  refine ev_goto (tgt := 39) dX9_init_61 rfl ?_
  show Ev _ _ _ _ 39 114 _ _ [(2, 43), (0, 6)] []
  refine ev_iload_n dX9_init_39 rfl ?_
  show Ev _ _ _ _ 40 114 _ _ [(2, 43), (0, 6)] [(0, (6 : Int))]
  refine ev_bipush dX9_init_40 (by decide) (by decide) ?_
  show Ev _ _ _ _ 42 114 _ _ [(2, 43), (0, 6)] [(0, (10 : Int)), (0, (6 : Int))]
  refine ev_icmp_ge (tgt := 64) (X := some ()) (Y := some ()) (q := ()) dX9_init_42 rfl (by split <;> rfl) (fun z => absurd z (by decide)) (fun _ _ => ?_)
  show Ev _ _ _ _ 45 114 _ _ [(2, 43), (0, 6)] []
  refine ev_aload_n dX9_init_45 rfl (by decide) ?_
  show Ev _ _ _ _ 46 114 _ _ [(2, 43), (0, 6)] [(2, (43 : Int))]
  refine ev_getf (j := 1) (t := 2) (x := (52 : Int)) dX9_init_46 cf_X9 wf_X9_20 sp43 (by decide) (by decide) rfl (by decide) rfl ?_
  show Ev _ _ _ _ 49 114 _ _ [(2, 43), (0, 6)] [(2, (52 : Int))]
  refine ev_iload_n dX9_init_49 rfl ?_
  show Ev _ _ _ _ 50 114 _ _ [(2, 43), (0, 6)] [(0, (6 : Int)), (2, (52 : Int))]
  refine ev_new dX9_init_50 cf_X8 wk_X9_18 wi_X8 wz_X8 sp114 (by decide) ?_
  show Ev _ _ _ _ 53 115 _ _ [(2, 43), (0, 6)] [(2, (114 : Int)), (0, (6 : Int)), (2, (52 : Int))]
  refine ev_dup dX9_init_53 (show (2 : Nat) ≠ 1 by decide) ?_
  show Ev _ _ _ _ 54 115 _ _ [(2, 43), (0, 6)] [(2, (114 : Int)), (2, (114 : Int)), (0, (6 : Int)), (2, (52 : Int))]
  refine ev_invIN (k := 114) (av := []) (st := [(2, (114 : Int)), (0, (6 : Int)), (2, (52 : Int))]) dX9_init_54 ml_X9_32 mi_X8_init rfl (by decide) rfl rfl ⟨Nat.le_of_ble_eq_true rfl, Nat.le_of_ble_eq_true rfl⟩ (Nat.le_of_ble_eq_true rfl) (c_X8_init_115 _ _) ⟨by decide, by decide⟩ ?_
  show Ev _ _ _ _ 57 124 (rc_X8_init_115 _) (sc_X8_init_115 _) _ _
  show Ev _ _ _ _ 57 124 _ _ [(2, 43), (0, 6)] [(2, (114 : Int)), (0, (6 : Int)), (2, (52 : Int))]
  refine ev_aast (ci := 7) dX9_init_57 rfl sp52 (by decide) (by decide) sp114 (by decide) (by decide) ⟨by decide, by decide⟩ ?_
  show Ev _ _ _ _ 58 124 _ _ [(2, 43), (0, 6)] []
  refine ev_iinc dX9_init_58 rfl rfl ?_
  rw [show jadd (6 : Int) (1 : Int) = 7 by decide +kernel]
  show Ev _ _ _ _ 61 124 _ _ [(2, 43), (0, 7)] []
  refine ev_goto (tgt := 39) dX9_init_61 rfl ?_
  show Ev _ _ _ _ 39 124 _ _ [(2, 43), (0, 7)] []
  refine ev_iload_n dX9_init_39 rfl ?_
  show Ev _ _ _ _ 40 124 _ _ [(2, 43), (0, 7)] [(0, (7 : Int))]
  refine ev_bipush dX9_init_40 (by decide) (by decide) ?_
  show Ev _ _ _ _ 42 124 _ _ [(2, 43), (0, 7)] [(0, (10 : Int)), (0, (7 : Int))]
  refine ev_icmp_ge (tgt := 64) (X := some ()) (Y := some ()) (q := ()) dX9_init_42 rfl (by split <;> rfl) (fun z => absurd z (by decide)) (fun _ _ => ?_)
  show Ev _ _ _ _ 45 124 _ _ [(2, 43), (0, 7)] []
  refine ev_aload_n dX9_init_45 rfl (by decide) ?_
  show Ev _ _ _ _ 46 124 _ _ [(2, 43), (0, 7)] [(2, (43 : Int))]
  refine ev_getf (j := 1) (t := 2) (x := (52 : Int)) dX9_init_46 cf_X9 wf_X9_20 sp43 (by decide) (by decide) rfl (by decide) rfl ?_
  show Ev _ _ _ _ 49 124 _ _ [(2, 43), (0, 7)] [(2, (52 : Int))]
  refine ev_iload_n dX9_init_49 rfl ?_
  show Ev _ _ _ _ 50 124 _ _ [(2, 43), (0, 7)] [(0, (7 : Int)), (2, (52 : Int))]
  refine ev_new dX9_init_50 cf_X8 wk_X9_18 wi_X8 wz_X8 sp124 (by decide) ?_
  show Ev _ _ _ _ 53 125 _ _ [(2, 43), (0, 7)] [(2, (124 : Int)), (0, (7 : Int)), (2, (52 : Int))]
  refine ev_dup dX9_init_53 (show (2 : Nat) ≠ 1 by decide) ?_
  show Ev _ _ _ _ 54 125 _ _ [(2, 43), (0, 7)] [(2, (124 : Int)), (2, (124 : Int)), (0, (7 : Int)), (2, (52 : Int))]
  refine ev_invIN (k := 124) (av := []) (st := [(2, (124 : Int)), (0, (7 : Int)), (2, (52 : Int))]) dX9_init_54 ml_X9_32 mi_X8_init rfl (by decide) rfl rfl ⟨Nat.le_of_ble_eq_true rfl, Nat.le_of_ble_eq_true rfl⟩ (Nat.le_of_ble_eq_true rfl) (c_X8_init_125 _ _) ⟨by decide, by decide⟩ ?_
  show Ev _ _ _ _ 57 134 (rc_X8_init_125 _) (sc_X8_init_125 _) _ _
  show Ev _ _ _ _ 57 134 _ _ [(2, 43), (0, 7)] [(2, (124 : Int)), (0, (7 : Int)), (2, (52 : Int))]
  refine ev_aast (ci := 7) dX9_init_57 rfl sp52 (by decide) (by decide) sp124 (by decide) (by decide) ⟨by decide, by decide⟩ ?_
  show Ev _ _ _ _ 58 134 _ _ [(2, 43), (0, 7)] []
  refine ev_iinc dX9_init_58 rfl rfl ?_
  rw [show jadd (7 : Int) (1 : Int) = 8 by decide +kernel]
  show Ev _ _ _ _ 61 134 _ _ [(2, 43), (0, 8)] []
  refine ev_goto (tgt := 39) dX9_init_61 rfl ?_
  show Ev _ _ _ _ 39 134 _ _ [(2, 43), (0, 8)] []
  refine ev_iload_n dX9_init_39 rfl ?_
  show Ev _ _ _ _ 40 134 _ _ [(2, 43), (0, 8)] [(0, (8 : Int))]
  refine ev_bipush dX9_init_40 (by decide) (by decide) ?_
  show Ev _ _ _ _ 42 134 _ _ [(2, 43), (0, 8)] [(0, (10 : Int)), (0, (8 : Int))]
  refine ev_icmp_ge (tgt := 64) (X := some ()) (Y := some ()) (q := ()) dX9_init_42 rfl (by split <;> rfl) (fun z => absurd z (by decide)) (fun _ _ => ?_)
  show Ev _ _ _ _ 45 134 _ _ [(2, 43), (0, 8)] []
  refine ev_aload_n dX9_init_45 rfl (by decide) ?_
  show Ev _ _ _ _ 46 134 _ _ [(2, 43), (0, 8)] [(2, (43 : Int))]
  refine ev_getf (j := 1) (t := 2) (x := (52 : Int)) dX9_init_46 cf_X9 wf_X9_20 sp43 (by decide) (by decide) rfl (by decide) rfl ?_
  show Ev _ _ _ _ 49 134 _ _ [(2, 43), (0, 8)] [(2, (52 : Int))]
  refine ev_iload_n dX9_init_49 rfl ?_
  show Ev _ _ _ _ 50 134 _ _ [(2, 43), (0, 8)] [(0, (8 : Int)), (2, (52 : Int))]
  refine ev_new dX9_init_50 cf_X8 wk_X9_18 wi_X8 wz_X8 sp134 (by decide) ?_
  show Ev _ _ _ _ 53 135 _ _ [(2, 43), (0, 8)] [(2, (134 : Int)), (0, (8 : Int)), (2, (52 : Int))]
  refine ev_dup dX9_init_53 (show (2 : Nat) ≠ 1 by decide) ?_
  show Ev _ _ _ _ 54 135 _ _ [(2, 43), (0, 8)] [(2, (134 : Int)), (2, (134 : Int)), (0, (8 : Int)), (2, (52 : Int))]
  refine ev_invIN (k := 134) (av := []) (st := [(2, (134 : Int)), (0, (8 : Int)), (2, (52 : Int))]) dX9_init_54 ml_X9_32 mi_X8_init rfl (by decide) rfl rfl ⟨Nat.le_of_ble_eq_true rfl, Nat.le_of_ble_eq_true rfl⟩ (Nat.le_of_ble_eq_true rfl) (c_X8_init_135 _ _) ⟨by decide, by decide⟩ ?_
  show Ev _ _ _ _ 57 144 (rc_X8_init_135 _) (sc_X8_init_135 _) _ _
  show Ev _ _ _ _ 57 144 _ _ [(2, 43), (0, 8)] [(2, (134 : Int)), (0, (8 : Int)), (2, (52 : Int))]
  refine ev_aast (ci := 7) dX9_init_57 rfl sp52 (by decide) (by decide) sp134 (by decide) (by decide) ⟨by decide, by decide⟩ ?_
  show Ev _ _ _ _ 58 144 _ _ [(2, 43), (0, 8)] []
  refine ev_iinc dX9_init_58 rfl rfl ?_
  rw [show jadd (8 : Int) (1 : Int) = 9 by decide +kernel]
  show Ev _ _ _ _ 61 144 _ _ [(2, 43), (0, 9)] []
  refine ev_goto (tgt := 39) dX9_init_61 rfl ?_
  show Ev _ _ _ _ 39 144 _ _ [(2, 43), (0, 9)] []
  refine ev_iload_n dX9_init_39 rfl ?_
  show Ev _ _ _ _ 40 144 _ _ [(2, 43), (0, 9)] [(0, (9 : Int))]
  refine ev_bipush dX9_init_40 (by decide) (by decide) ?_
  show Ev _ _ _ _ 42 144 _ _ [(2, 43), (0, 9)] [(0, (10 : Int)), (0, (9 : Int))]
  refine ev_icmp_ge (tgt := 64) (X := some ()) (Y := some ()) (q := ()) dX9_init_42 rfl (by split <;> rfl) (fun z => absurd z (by decide)) (fun _ _ => ?_)
  show Ev _ _ _ _ 45 144 _ _ [(2, 43), (0, 9)] []
  refine ev_aload_n dX9_init_45 rfl (by decide) ?_
  show Ev _ _ _ _ 46 144 _ _ [(2, 43), (0, 9)] [(2, (43 : Int))]
  refine ev_getf (j := 1) (t := 2) (x := (52 : Int)) dX9_init_46 cf_X9 wf_X9_20 sp43 (by decide) (by decide) rfl (by decide) rfl ?_
  show Ev _ _ _ _ 49 144 _ _ [(2, 43), (0, 9)] [(2, (52 : Int))]
  refine ev_iload_n dX9_init_49 rfl ?_
  show Ev _ _ _ _ 50 144 _ _ [(2, 43), (0, 9)] [(0, (9 : Int)), (2, (52 : Int))]
  refine ev_new dX9_init_50 cf_X8 wk_X9_18 wi_X8 wz_X8 sp144 (by decide) ?_
  show Ev _ _ _ _ 53 145 _ _ [(2, 43), (0, 9)] [(2, (144 : Int)), (0, (9 : Int)), (2, (52 : Int))]
  refine ev_dup dX9_init_53 (show (2 : Nat) ≠ 1 by decide) ?_
  show Ev _ _ _ _ 54 145 _ _ [(2, 43), (0, 9)] [(2, (144 : Int)), (2, (144 : Int)), (0, (9 : Int)), (2, (52 : Int))]
  refine ev_invIN (k := 144) (av := []) (st := [(2, (144 : Int)), (0, (9 : Int)), (2, (52 : Int))]) dX9_init_54 ml_X9_32 mi_X8_init rfl (by decide) rfl rfl ⟨Nat.le_of_ble_eq_true rfl, Nat.le_of_ble_eq_true rfl⟩ (Nat.le_of_ble_eq_true rfl) (c_X8_init_145 _ _) ⟨by decide, by decide⟩ ?_
  show Ev _ _ _ _ 57 154 (rc_X8_init_145 _) (sc_X8_init_145 _) _ _
  show Ev _ _ _ _ 57 154 _ _ [(2, 43), (0, 9)] [(2, (144 : Int)), (0, (9 : Int)), (2, (52 : Int))]
  refine ev_aast (ci := 7) dX9_init_57 rfl sp52 (by decide) (by decide) sp144 (by decide) (by decide) ⟨by decide, by decide⟩ ?_
  show Ev _ _ _ _ 58 154 _ _ [(2, 43), (0, 9)] []
  refine ev_iinc dX9_init_58 rfl rfl ?_
  rw [show jadd (9 : Int) (1 : Int) = 10 by decide +kernel]
  show Ev _ _ _ _ 61 154 _ _ [(2, 43), (0, 10)] []
  refine ev_goto (tgt := 39) dX9_init_61 rfl ?_
  show Ev _ _ _ _ 39 154 _ _ [(2, 43), (0, 10)] []
  refine ev_iload_n dX9_init_39 rfl ?_
  show Ev _ _ _ _ 40 154 _ _ [(2, 43), (0, 10)] [(0, (10 : Int))]
  refine ev_bipush dX9_init_40 (by decide) (by decide) ?_
  show Ev _ _ _ _ 42 154 _ _ [(2, 43), (0, 10)] [(0, (10 : Int)), (0, (10 : Int))]
  refine ev_icmp_ge (tgt := 64) (X := some ()) (Y := some ()) (q := ()) dX9_init_42 rfl (by split <;> rfl) (fun _ _ => ?_) (fun z => absurd (by decide) z)
  show Ev _ _ _ _ 64 154 _ _ [(2, 43), (0, 10)] []
  exact ev_vret dX9_init_64 rfl rfl
def rc_X8_init_155 (ρ : Mem) : Mem := (mup (mup (mup (mup (mup (mup (mup (mup (mup ρ 154 0 155) 154 1 156) 154 2 157) 154 3 158) 154 4 159) 154 5 160) 154 6 161) 154 7 162) 154 8 163)
def sc_X8_init_155 (σ : Mem) : Mem := σ
set_option maxHeartbeats 4000000 in
set_option maxRecDepth 20000 in
theorem c_X8_init_155 (ρ σ : Mem) : Ms yX8_init M_X8_init 155 164 [(2, 154)] ρ σ (none, rc_X8_init_155 ρ, sc_X8_init_155 σ) := by
  refine Ms.of 0 (by decide +kernel) rfl (fun _ => rfl) (fun _ _ _ => trivial) rfl rfl ?_
  show Ev M_X8_init 155 164 _ 0 155 ρ σ [(2, 154)] []
  show Ev _ _ _ _ 0 155 _ _ [(2, 154)] []
  refine ev_aload_n dX8_init_0 rfl (by decide) ?_
  show Ev _ _ _ _ 1 155 _ _ [(2, 154)] [(2, (154 : Int))]
  refine ev_oinit dX8_init_1 wo_X8_3 wo_i wo_c (by decide) (by decide) (by decide) ?_
  show Ev _ _ _ _ 4 155 _ _ [(2, 154)] []
  refine ev_aload_n dX8_init_4 rfl (by decide) ?_
  show Ev _ _ _ _ 5 155 _ _ [(2, 154)] [(2, (154 : Int))]
  refine ev_iconst dX8_init_5 (by decide) ?_
  show Ev _ _ _ _ 6 155 _ _ [(2, 154)] [(0, (5 : Int)), (2, (154 : Int))]
  refine ev_newz (N := 5) dX8_init_6 wyboolean sp155 (by decide) (by decide) ?_
  show Ev _ _ _ _ 8 156 _ _ [(2, 154)] [(2, (155 : Int)), (2, (154 : Int))]
  refine ev_putrF (j := 0) dX8_init_8 cf_X8 wf_X8_9 sp154 (by decide) (by decide) rfl rfl rfl rfl (fun z => absurd z (by decide +kernel)) ?_
  show Ev _ _ _ _ 11 156 _ _ [(2, 154)] []
  refine ev_aload_n dX8_init_11 rfl (by decide) ?_
  show Ev _ _ _ _ 12 156 _ _ [(2, 154)] [(2, (154 : Int))]
  refine ev_iconst dX8_init_12 (by decide) ?_
  show Ev _ _ _ _ 13 156 _ _ [(2, 154)] [(0, (5 : Int)), (2, (154 : Int))]
  refine ev_newi (N := 5) dX8_init_13 wyint sp156 (by decide) (by decide) ?_
  show Ev _ _ _ _ 15 157 _ _ [(2, 154)] [(2, (156 : Int)), (2, (154 : Int))]
  refine ev_putrF (j := 1) dX8_init_15 cf_X8 wf_X8_15 sp154 (by decide) (by decide) rfl rfl rfl rfl (fun z => absurd z (by decide +kernel)) ?_
  show Ev _ _ _ _ 18 157 _ _ [(2, 154)] []
  refine ev_aload_n dX8_init_18 rfl (by decide) ?_
  show Ev _ _ _ _ 19 157 _ _ [(2, 154)] [(2, (154 : Int))]
  refine ev_iconst dX8_init_19 (by decide) ?_
  show Ev _ _ _ _ 20 157 _ _ [(2, 154)] [(0, (5 : Int)), (2, (154 : Int))]
  refine ev_newi (N := 5) dX8_init_20 wyint sp157 (by decide) (by decide) ?_
  show Ev _ _ _ _ 22 158 _ _ [(2, 154)] [(2, (157 : Int)), (2, (154 : Int))]
  refine ev_putrF (j := 2) dX8_init_22 cf_X8 wf_X8_19 sp154 (by decide) (by decide) rfl rfl rfl rfl (fun z => absurd z (by decide +kernel)) ?_
  show Ev _ _ _ _ 25 158 _ _ [(2, 154)] []
  refine ev_aload_n dX8_init_25 rfl (by decide) ?_
  show Ev _ _ _ _ 26 158 _ _ [(2, 154)] [(2, (154 : Int))]
  refine ev_iconst dX8_init_26 (by decide) ?_
  show Ev _ _ _ _ 27 158 _ _ [(2, 154)] [(0, (5 : Int)), (2, (154 : Int))]
  refine ev_newi (N := 5) dX8_init_27 wyint sp158 (by decide) (by decide) ?_
  show Ev _ _ _ _ 29 159 _ _ [(2, 154)] [(2, (158 : Int)), (2, (154 : Int))]
  refine ev_putrF (j := 3) dX8_init_29 cf_X8 wf_X8_22 sp154 (by decide) (by decide) rfl rfl rfl rfl (fun z => absurd z (by decide +kernel)) ?_
  show Ev _ _ _ _ 32 159 _ _ [(2, 154)] []
  refine ev_aload_n dX8_init_32 rfl (by decide) ?_
  show Ev _ _ _ _ 33 159 _ _ [(2, 154)] [(2, (154 : Int))]
  refine ev_iconst dX8_init_33 (by decide) ?_
  show Ev _ _ _ _ 34 159 _ _ [(2, 154)] [(0, (5 : Int)), (2, (154 : Int))]
  refine ev_newi (N := 5) dX8_init_34 wyint sp159 (by decide) (by decide) ?_
  show Ev _ _ _ _ 36 160 _ _ [(2, 154)] [(2, (159 : Int)), (2, (154 : Int))]
  refine ev_putrF (j := 4) dX8_init_36 cf_X8 wf_X8_25 sp154 (by decide) (by decide) rfl rfl rfl rfl (fun z => absurd z (by decide +kernel)) ?_
  show Ev _ _ _ _ 39 160 _ _ [(2, 154)] []
  refine ev_aload_n dX8_init_39 rfl (by decide) ?_
  show Ev _ _ _ _ 40 160 _ _ [(2, 154)] [(2, (154 : Int))]
  refine ev_iconst dX8_init_40 (by decide) ?_
  show Ev _ _ _ _ 41 160 _ _ [(2, 154)] [(0, (5 : Int)), (2, (154 : Int))]
  refine ev_newl (N := 5) dX8_init_41 wylong sp160 (by decide) (by decide) ?_
  show Ev _ _ _ _ 43 161 _ _ [(2, 154)] [(2, (160 : Int)), (2, (154 : Int))]
  refine ev_putrF (j := 5) dX8_init_43 cf_X8 wf_X8_28 sp154 (by decide) (by decide) rfl rfl rfl rfl (fun z => absurd z (by decide +kernel)) ?_
  show Ev _ _ _ _ 46 161 _ _ [(2, 154)] []
  refine ev_aload_n dX8_init_46 rfl (by decide) ?_
  show Ev _ _ _ _ 47 161 _ _ [(2, 154)] [(2, (154 : Int))]
  refine ev_bipush dX8_init_47 (by decide) (by decide) ?_
  show Ev _ _ _ _ 49 161 _ _ [(2, 154)] [(0, (20 : Int)), (2, (154 : Int))]
  refine ev_newi (N := 20) dX8_init_49 wyint sp161 (by decide) (by decide) ?_
  show Ev _ _ _ _ 51 162 _ _ [(2, 154)] [(2, (161 : Int)), (2, (154 : Int))]
  refine ev_putrF (j := 6) dX8_init_51 cf_X8 wf_X8_32 sp154 (by decide) (by decide) rfl rfl rfl rfl (fun z => absurd z (by decide +kernel)) ?_
  show Ev _ _ _ _ 54 162 _ _ [(2, 154)] []
  refine ev_aload_n dX8_init_54 rfl (by decide) ?_
  show Ev _ _ _ _ 55 162 _ _ [(2, 154)] [(2, (154 : Int))]
  refine ev_bipush dX8_init_55 (by decide) (by decide) ?_
  show Ev _ _ _ _ 57 162 _ _ [(2, 154)] [(0, (20 : Int)), (2, (154 : Int))]
  refine ev_newi (N := 20) dX8_init_57 wyint sp162 (by decide) (by decide) ?_
  show Ev _ _ _ _ 59 163 _ _ [(2, 154)] [(2, (162 : Int)), (2, (154 : Int))]
  refine ev_putrF (j := 7) dX8_init_59 cf_X8 wf_X8_35 sp154 (by decide) (by decide) rfl rfl rfl rfl (fun z => absurd z (by decide +kernel)) ?_
  show Ev _ _ _ _ 62 163 _ _ [(2, 154)] []
  refine ev_aload_n dX8_init_62 rfl (by decide) ?_
  show Ev _ _ _ _ 63 163 _ _ [(2, 154)] [(2, (154 : Int))]
  refine ev_bipush dX8_init_63 (by decide) (by decide) ?_
  show Ev _ _ _ _ 65 163 _ _ [(2, 154)] [(0, (20 : Int)), (2, (154 : Int))]
  refine ev_newi (N := 20) dX8_init_65 wyint sp163 (by decide) (by decide) ?_
  show Ev _ _ _ _ 67 164 _ _ [(2, 154)] [(2, (163 : Int)), (2, (154 : Int))]
  refine ev_putrF (j := 8) dX8_init_67 cf_X8 wf_X8_38 sp154 (by decide) (by decide) rfl rfl rfl rfl (fun z => absurd z (by decide +kernel)) ?_
  show Ev _ _ _ _ 70 164 _ _ [(2, 154)] []
  exact ev_vret dX8_init_70 rfl rfl
def rc_X1_init_165 (ρ : Mem) : Mem := (mup (mup (mup (mup (mup (mup ρ 164 0 165) 164 1 166) 164 2 167) 164 3 168) 164 4 169) 164 5 170)
def sc_X1_init_165 (σ : Mem) : Mem := σ
set_option maxHeartbeats 4000000 in
set_option maxRecDepth 20000 in
theorem c_X1_init_165 (ρ σ : Mem) : Ms yX1_init M_X1_init 165 171 [(2, 164)] ρ σ (none, rc_X1_init_165 ρ, sc_X1_init_165 σ) := by
  refine Ms.of 0 (by decide +kernel) rfl (fun _ => rfl) (fun _ _ _ => trivial) rfl rfl ?_
  show Ev M_X1_init 165 171 _ 0 165 ρ σ [(2, 164)] []
  show Ev _ _ _ _ 0 165 _ _ [(2, 164)] []
  refine ev_aload_n dX1_init_0 rfl (by decide) ?_
  show Ev _ _ _ _ 1 165 _ _ [(2, 164)] [(2, (164 : Int))]
  refine ev_oinit dX1_init_1 wo_X1_3 wo_i wo_c (by decide) (by decide) (by decide) ?_
  show Ev _ _ _ _ 4 165 _ _ [(2, 164)] []
  refine ev_aload_n dX1_init_4 rfl (by decide) ?_
  show Ev _ _ _ _ 5 165 _ _ [(2, 164)] [(2, (164 : Int))]
  refine ev_sipush dX1_init_5 (by decide) (by decide) ?_
  show Ev _ _ _ _ 8 165 _ _ [(2, 164)] [(0, (200 : Int)), (2, (164 : Int))]
  refine ev_newi (N := 200) dX1_init_8 wyint sp165 (by decide) (by decide) ?_
  show Ev _ _ _ _ 10 166 _ _ [(2, 164)] [(2, (165 : Int)), (2, (164 : Int))]
  refine ev_putrF (j := 0) dX1_init_10 cf_X1 wf_X1_9 sp164 (by decide) (by decide) rfl rfl rfl rfl (fun z => absurd z (by decide +kernel)) ?_
  show Ev _ _ _ _ 13 166 _ _ [(2, 164)] []
  refine ev_aload_n dX1_init_13 rfl (by decide) ?_
  show Ev _ _ _ _ 14 166 _ _ [(2, 164)] [(2, (164 : Int))]
  refine ev_sipush dX1_init_14 (by decide) (by decide) ?_
  show Ev _ _ _ _ 17 166 _ _ [(2, 164)] [(0, (200 : Int)), (2, (164 : Int))]
  refine ev_newi (N := 200) dX1_init_17 wyint sp166 (by decide) (by decide) ?_
  show Ev _ _ _ _ 19 167 _ _ [(2, 164)] [(2, (166 : Int)), (2, (164 : Int))]
  refine ev_putrF (j := 1) dX1_init_19 cf_X1 wf_X1_15 sp164 (by decide) (by decide) rfl rfl rfl rfl (fun z => absurd z (by decide +kernel)) ?_
  show Ev _ _ _ _ 22 167 _ _ [(2, 164)] []
  refine ev_aload_n dX1_init_22 rfl (by decide) ?_
  show Ev _ _ _ _ 23 167 _ _ [(2, 164)] [(2, (164 : Int))]
  refine ev_sipush dX1_init_23 (by decide) (by decide) ?_
  show Ev _ _ _ _ 26 167 _ _ [(2, 164)] [(0, (200 : Int)), (2, (164 : Int))]
  refine ev_newi (N := 200) dX1_init_26 wyint sp167 (by decide) (by decide) ?_
  show Ev _ _ _ _ 28 168 _ _ [(2, 164)] [(2, (167 : Int)), (2, (164 : Int))]
  refine ev_putrF (j := 2) dX1_init_28 cf_X1 wf_X1_18 sp164 (by decide) (by decide) rfl rfl rfl rfl (fun z => absurd z (by decide +kernel)) ?_
  show Ev _ _ _ _ 31 168 _ _ [(2, 164)] []
  refine ev_aload_n dX1_init_31 rfl (by decide) ?_
  show Ev _ _ _ _ 32 168 _ _ [(2, 164)] [(2, (164 : Int))]
  refine ev_sipush dX1_init_32 (by decide) (by decide) ?_
  show Ev _ _ _ _ 35 168 _ _ [(2, 164)] [(0, (200 : Int)), (2, (164 : Int))]
  refine ev_newi (N := 200) dX1_init_35 wyint sp168 (by decide) (by decide) ?_
  show Ev _ _ _ _ 37 169 _ _ [(2, 164)] [(2, (168 : Int)), (2, (164 : Int))]
  refine ev_putrF (j := 3) dX1_init_37 cf_X1 wf_X1_21 sp164 (by decide) (by decide) rfl rfl rfl rfl (fun z => absurd z (by decide +kernel)) ?_
  show Ev _ _ _ _ 40 169 _ _ [(2, 164)] []
  refine ev_aload_n dX1_init_40 rfl (by decide) ?_
  show Ev _ _ _ _ 41 169 _ _ [(2, 164)] [(2, (164 : Int))]
  refine ev_sipush dX1_init_41 (by decide) (by decide) ?_
  show Ev _ _ _ _ 44 169 _ _ [(2, 164)] [(0, (200 : Int)), (2, (164 : Int))]
  refine ev_newi (N := 200) dX1_init_44 wyint sp169 (by decide) (by decide) ?_
  show Ev _ _ _ _ 46 170 _ _ [(2, 164)] [(2, (169 : Int)), (2, (164 : Int))]
  refine ev_putrF (j := 4) dX1_init_46 cf_X1 wf_X1_24 sp164 (by decide) (by decide) rfl rfl rfl rfl (fun z => absurd z (by decide +kernel)) ?_
  show Ev _ _ _ _ 49 170 _ _ [(2, 164)] []
  refine ev_aload_n dX1_init_49 rfl (by decide) ?_
  show Ev _ _ _ _ 50 170 _ _ [(2, 164)] [(2, (164 : Int))]
  refine ev_sipush dX1_init_50 (by decide) (by decide) ?_
  show Ev _ _ _ _ 53 170 _ _ [(2, 164)] [(0, (200 : Int)), (2, (164 : Int))]
  refine ev_newi (N := 200) dX1_init_53 wyint sp170 (by decide) (by decide) ?_
  show Ev _ _ _ _ 55 171 _ _ [(2, 164)] [(2, (170 : Int)), (2, (164 : Int))]
  refine ev_putrF (j := 5) dX1_init_55 cf_X1 wf_X1_27 sp164 (by decide) (by decide) rfl rfl rfl rfl (fun z => absurd z (by decide +kernel)) ?_
  show Ev _ _ _ _ 58 171 _ _ [(2, 164)] []
  exact ev_vret dX1_init_58 rfl rfl
def rc_X5_init_172 (ρ : Mem) : Mem := (mup (mup (mup (mup (mup (mup (mup ρ 171 0 172) 171 1 173) 171 2 174) 171 3 175) 171 4 176) 171 5 177) 171 6 178)
def sc_X5_init_172 (σ : Mem) : Mem := σ
set_option maxHeartbeats 4000000 in
set_option maxRecDepth 20000 in
theorem c_X5_init_172 (ρ σ : Mem) : Ms yX5_init M_X5_init 172 179 [(2, 171)] ρ σ (none, rc_X5_init_172 ρ, sc_X5_init_172 σ) := by
  refine Ms.of 0 (by decide +kernel) rfl (fun _ => rfl) (fun _ _ _ => trivial) rfl rfl ?_
  show Ev M_X5_init 172 179 _ 0 172 ρ σ [(2, 171)] []
  show Ev _ _ _ _ 0 172 _ _ [(2, 171)] []
  refine ev_aload_n dX5_init_0 rfl (by decide) ?_
  show Ev _ _ _ _ 1 172 _ _ [(2, 171)] [(2, (171 : Int))]
  refine ev_oinit dX5_init_1 wo_X5_3 wo_i wo_c (by decide) (by decide) (by decide) ?_
  show Ev _ _ _ _ 4 172 _ _ [(2, 171)] []
  refine ev_aload_n dX5_init_4 rfl (by decide) ?_
  show Ev _ _ _ _ 5 172 _ _ [(2, 171)] [(2, (171 : Int))]
  refine ev_sipush dX5_init_5 (by decide) (by decide) ?_
  show Ev _ _ _ _ 8 172 _ _ [(2, 171)] [(0, (288 : Int)), (2, (171 : Int))]
  refine ev_newi (N := 288) dX5_init_8 wyint sp172 (by decide) (by decide) ?_
  show Ev _ _ _ _ 10 173 _ _ [(2, 171)] [(2, (172 : Int)), (2, (171 : Int))]
  refine ev_putrF (j := 0) dX5_init_10 cf_X5 wf_X5_9 sp171 (by decide) (by decide) rfl rfl rfl rfl (fun z => absurd z (by decide +kernel)) ?_
  show Ev _ _ _ _ 13 173 _ _ [(2, 171)] []
  refine ev_aload_n dX5_init_13 rfl (by decide) ?_
  show Ev _ _ _ _ 14 173 _ _ [(2, 171)] [(2, (171 : Int))]
  refine ev_bipush dX5_init_14 (by decide) (by decide) ?_
  show Ev _ _ _ _ 16 173 _ _ [(2, 171)] [(0, (6 : Int)), (2, (171 : Int))]
  refine ev_newl (N := 6) dX5_init_16 wylong sp173 (by decide) (by decide) ?_
  show Ev _ _ _ _ 18 174 _ _ [(2, 171)] [(2, (173 : Int)), (2, (171 : Int))]
  refine ev_putrF (j := 1) dX5_init_18 cf_X5 wf_X5_15 sp171 (by decide) (by decide) rfl rfl rfl rfl (fun z => absurd z (by decide +kernel)) ?_
  show Ev _ _ _ _ 21 174 _ _ [(2, 171)] []
  refine ev_aload_n dX5_init_21 rfl (by decide) ?_
  show Ev _ _ _ _ 22 174 _ _ [(2, 171)] [(2, (171 : Int))]
  refine ev_bipush dX5_init_22 (by decide) (by decide) ?_
  show Ev _ _ _ _ 24 174 _ _ [(2, 171)] [(0, (9 : Int)), (2, (171 : Int))]
  refine ev_newl (N := 9) dX5_init_24 wylong sp174 (by decide) (by decide) ?_
  show Ev _ _ _ _ 26 175 _ _ [(2, 171)] [(2, (174 : Int)), (2, (171 : Int))]
  refine ev_putrF (j := 2) dX5_init_26 cf_X5 wf_X5_19 sp171 (by decide) (by decide) rfl rfl rfl rfl (fun z => absurd z (by decide +kernel)) ?_
  show Ev _ _ _ _ 29 175 _ _ [(2, 171)] []
  refine ev_aload_n dX5_init_29 rfl (by decide) ?_
  show Ev _ _ _ _ 30 175 _ _ [(2, 171)] [(2, (171 : Int))]
  refine ev_bipush dX5_init_30 (by decide) (by decide) ?_
  show Ev _ _ _ _ 32 175 _ _ [(2, 171)] [(0, (10 : Int)), (2, (171 : Int))]
  refine ev_newi (N := 10) dX5_init_32 wyint sp175 (by decide) (by decide) ?_
  show Ev _ _ _ _ 34 176 _ _ [(2, 171)] [(2, (175 : Int)), (2, (171 : Int))]
  refine ev_putrF (j := 3) dX5_init_34 cf_X5 wf_X5_22 sp171 (by decide) (by decide) rfl rfl rfl rfl (fun z => absurd z (by decide +kernel)) ?_
  show Ev _ _ _ _ 37 176 _ _ [(2, 171)] []
  refine ev_aload_n dX5_init_37 rfl (by decide) ?_
  show Ev _ _ _ _ 38 176 _ _ [(2, 171)] [(2, (171 : Int))]
  refine ev_bipush dX5_init_38 (by decide) (by decide) ?_
  show Ev _ _ _ _ 40 176 _ _ [(2, 171)] [(0, (10 : Int)), (2, (171 : Int))]
  refine ev_newi (N := 10) dX5_init_40 wyint sp176 (by decide) (by decide) ?_
  show Ev _ _ _ _ 42 177 _ _ [(2, 171)] [(2, (176 : Int)), (2, (171 : Int))]
  refine ev_putrF (j := 4) dX5_init_42 cf_X5 wf_X5_25 sp171 (by decide) (by decide) rfl rfl rfl rfl (fun z => absurd z (by decide +kernel)) ?_
  show Ev _ _ _ _ 45 177 _ _ [(2, 171)] []
  refine ev_aload_n dX5_init_45 rfl (by decide) ?_
  show Ev _ _ _ _ 46 177 _ _ [(2, 171)] [(2, (171 : Int))]
  refine ev_bipush dX5_init_46 (by decide) (by decide) ?_
  show Ev _ _ _ _ 48 177 _ _ [(2, 171)] [(0, (90 : Int)), (2, (171 : Int))]
  refine ev_newi (N := 90) dX5_init_48 wyint sp177 (by decide) (by decide) ?_
  show Ev _ _ _ _ 50 178 _ _ [(2, 171)] [(2, (177 : Int)), (2, (171 : Int))]
  refine ev_putrF (j := 5) dX5_init_50 cf_X5 wf_X5_28 sp171 (by decide) (by decide) rfl rfl rfl rfl (fun z => absurd z (by decide +kernel)) ?_
  show Ev _ _ _ _ 53 178 _ _ [(2, 171)] []
  refine ev_aload_n dX5_init_53 rfl (by decide) ?_
  show Ev _ _ _ _ 54 178 _ _ [(2, 171)] [(2, (171 : Int))]
  refine ev_bipush dX5_init_54 (by decide) (by decide) ?_
  show Ev _ _ _ _ 56 178 _ _ [(2, 171)] [(0, (54 : Int)), (2, (171 : Int))]
  refine ev_newi (N := 54) dX5_init_56 wyint sp178 (by decide) (by decide) ?_
  show Ev _ _ _ _ 58 179 _ _ [(2, 171)] [(2, (178 : Int)), (2, (171 : Int))]
  refine ev_putrF (j := 6) dX5_init_58 cf_X5 wf_X5_31 sp171 (by decide) (by decide) rfl rfl rfl rfl (fun z => absurd z (by decide +kernel)) ?_
  show Ev _ _ _ _ 61 179 _ _ [(2, 171)] []
  exact ev_vret dX5_init_61 rfl rfl
def rc_X10_init_1 (ρ : Mem) : Mem := (mup (mup (mup (rc_X5_init_172 (mup (rc_X1_init_165 (mup (rc_X8_init_155 (mup (rc_X9_init_44 (mup (rc_X4_init_36 (mup (mup (rc_X6_init_31 (mup (rc_X7_init_29 (mup (rc_X0_init_20 (mup (rc_X0_init_11 (mup (rc_X0_init_2 ρ) 0 0 1)) 0 1 10)) 0 2 19)) 0 4 28)) 0 5 30) 0 6 34)) 0 7 35)) 0 8 43)) 0 9 154)) 0 10 164)) 0 11 171) 0 12 179) 0 13 180)
def sc_X10_init_1 (σ : Mem) : Mem := (sc_X5_init_172 (sc_X1_init_165 (sc_X8_init_155 (sc_X9_init_44 (sc_X4_init_36 (sc_X6_init_31 (sc_X7_init_29 (sc_X0_init_20 (sc_X0_init_11 (sc_X0_init_2 σ))))))))))
set_option maxHeartbeats 4000000 in
set_option maxRecDepth 20000 in
theorem c_X10_init_1 (ρ σ : Mem) : Ms yX10_init M_X10_init 1 181 [(2, 0)] ρ σ (none, rc_X10_init_1 ρ, sc_X10_init_1 σ) := by
  refine Ms.of 0 (by decide +kernel) rfl (fun _ => rfl) (fun _ _ _ => trivial) rfl rfl ?_
  show Ev M_X10_init 1 181 _ 0 1 ρ σ [(2, 0)] []
  show Ev _ _ _ _ 0 1 _ _ [(2, 0)] []
  refine ev_aload_n dX10_init_0 rfl (by decide) ?_
  show Ev _ _ _ _ 1 1 _ _ [(2, 0)] [(2, (0 : Int))]
  refine ev_oinit dX10_init_1 wo_X10_3 wo_i wo_c (by decide) (by decide) (by decide) ?_
  show Ev _ _ _ _ 4 1 _ _ [(2, 0)] []
  refine ev_aload_n dX10_init_4 rfl (by decide) ?_
  show Ev _ _ _ _ 5 1 _ _ [(2, 0)] [(2, (0 : Int))]
  refine ev_new dX10_init_5 cf_X0 wk_X10_9 wi_X0 wz_X0 sp1 (by decide) ?_
  show Ev _ _ _ _ 8 2 _ _ [(2, 0)] [(2, (1 : Int)), (2, (0 : Int))]
  refine ev_dup dX10_init_8 (show (2 : Nat) ≠ 1 by decide) ?_
  show Ev _ _ _ _ 9 2 _ _ [(2, 0)] [(2, (1 : Int)), (2, (1 : Int)), (2, (0 : Int))]
  refine ev_invIN (k := 1) (av := []) (st := [(2, (1 : Int)), (2, (0 : Int))]) dX10_init_9 ml_X10_11 mi_X0_init rfl (by decide) rfl rfl ⟨Nat.le_of_ble_eq_true rfl, Nat.le_of_ble_eq_true rfl⟩ (Nat.le_of_ble_eq_true rfl) (c_X0_init_2 _ _) ⟨by decide, by decide⟩ ?_
  show Ev _ _ _ _ 12 10 (rc_X0_init_2 _) (sc_X0_init_2 _) _ _
  show Ev _ _ _ _ 12 10 _ _ [(2, 0)] [(2, (1 : Int)), (2, (0 : Int))]
  refine ev_putrF (j := 0) dX10_init_12 cf_X10 wf_X10_12 sp0 (by decide) (by decide) rfl rfl rfl rfl (fun z => absurd z (by decide +kernel)) ?_
  show Ev _ _ _ _ 15 10 _ _ [(2, 0)] []
  refine ev_aload_n dX10_init_15 rfl (by decide) ?_
  show Ev _ _ _ _ 16 10 _ _ [(2, 0)] [(2, (0 : Int))]
  refine ev_new dX10_init_16 cf_X0 wk_X10_9 wi_X0 wz_X0 sp10 (by decide) ?_
  show Ev _ _ _ _ 19 11 _ _ [(2, 0)] [(2, (10 : Int)), (2, (0 : Int))]
  refine ev_dup dX10_init_19 (show (2 : Nat) ≠ 1 by decide) ?_
  show Ev _ _ _ _ 20 11 _ _ [(2, 0)] [(2, (10 : Int)), (2, (10 : Int)), (2, (0 : Int))]
  refine ev_invIN (k := 10) (av := []) (st := [(2, (10 : Int)), (2, (0 : Int))]) dX10_init_20 ml_X10_11 mi_X0_init rfl (by decide) rfl rfl ⟨Nat.le_of_ble_eq_true rfl, Nat.le_of_ble_eq_true rfl⟩ (Nat.le_of_ble_eq_true rfl) (c_X0_init_11 _ _) ⟨by decide, by decide⟩ ?_
  show Ev _ _ _ _ 23 19 (rc_X0_init_11 _) (sc_X0_init_11 _) _ _
  show Ev _ _ _ _ 23 19 _ _ [(2, 0)] [(2, (10 : Int)), (2, (0 : Int))]
  refine ev_putrF (j := 1) dX10_init_23 cf_X10 wf_X10_16 sp0 (by decide) (by decide) rfl rfl rfl rfl (fun z => absurd z (by decide +kernel)) ?_
  show Ev _ _ _ _ 26 19 _ _ [(2, 0)] []
  refine ev_aload_n dX10_init_26 rfl (by decide) ?_
  show Ev _ _ _ _ 27 19 _ _ [(2, 0)] [(2, (0 : Int))]
  refine ev_new dX10_init_27 cf_X0 wk_X10_9 wi_X0 wz_X0 sp19 (by decide) ?_
  show Ev _ _ _ _ 30 20 _ _ [(2, 0)] [(2, (19 : Int)), (2, (0 : Int))]
  refine ev_dup dX10_init_30 (show (2 : Nat) ≠ 1 by decide) ?_
  show Ev _ _ _ _ 31 20 _ _ [(2, 0)] [(2, (19 : Int)), (2, (19 : Int)), (2, (0 : Int))]
  refine ev_invIN (k := 19) (av := []) (st := [(2, (19 : Int)), (2, (0 : Int))]) dX10_init_31 ml_X10_11 mi_X0_init rfl (by decide) rfl rfl ⟨Nat.le_of_ble_eq_true rfl, Nat.le_of_ble_eq_true rfl⟩ (Nat.le_of_ble_eq_true rfl) (c_X0_init_20 _ _) ⟨by decide, by decide⟩ ?_
  show Ev _ _ _ _ 34 28 (rc_X0_init_20 _) (sc_X0_init_20 _) _ _
  show Ev _ _ _ _ 34 28 _ _ [(2, 0)] [(2, (19 : Int)), (2, (0 : Int))]
  refine ev_putrF (j := 2) dX10_init_34 cf_X10 wf_X10_19 sp0 (by decide) (by decide) rfl rfl rfl rfl (fun z => absurd z (by decide +kernel)) ?_
  show Ev _ _ _ _ 37 28 _ _ [(2, 0)] []
  refine ev_aload_n dX10_init_37 rfl (by decide) ?_
  show Ev _ _ _ _ 38 28 _ _ [(2, 0)] [(2, (0 : Int))]
  refine ev_new dX10_init_38 cf_X7 wk_X10_22 wi_X7 wz_X7 sp28 (by decide) ?_
  show Ev _ _ _ _ 41 29 _ _ [(2, 0)] [(2, (28 : Int)), (2, (0 : Int))]
  refine ev_dup dX10_init_41 (show (2 : Nat) ≠ 1 by decide) ?_
  show Ev _ _ _ _ 42 29 _ _ [(2, 0)] [(2, (28 : Int)), (2, (28 : Int)), (2, (0 : Int))]
  refine ev_invIN (k := 28) (av := []) (st := [(2, (28 : Int)), (2, (0 : Int))]) dX10_init_42 ml_X10_24 mi_X7_init rfl (by decide) rfl rfl ⟨Nat.le_of_ble_eq_true rfl, Nat.le_of_ble_eq_true rfl⟩ (Nat.le_of_ble_eq_true rfl) (c_X7_init_29 _ _) ⟨by decide, by decide⟩ ?_
  show Ev _ _ _ _ 45 30 (rc_X7_init_29 _) (sc_X7_init_29 _) _ _
  show Ev _ _ _ _ 45 30 _ _ [(2, 0)] [(2, (28 : Int)), (2, (0 : Int))]
  refine ev_putrF (j := 4) dX10_init_45 cf_X10 wf_X10_25 sp0 (by decide) (by decide) rfl rfl rfl rfl (fun z => absurd z (by decide +kernel)) ?_
  show Ev _ _ _ _ 48 30 _ _ [(2, 0)] []
  refine ev_aload_n dX10_init_48 rfl (by decide) ?_
  show Ev _ _ _ _ 49 30 _ _ [(2, 0)] [(2, (0 : Int))]
  refine ev_new dX10_init_49 cf_X6 wk_X10_29 wi_X6 wz_X6 sp30 (by decide) ?_
  show Ev _ _ _ _ 52 31 _ _ [(2, 0)] [(2, (30 : Int)), (2, (0 : Int))]
  refine ev_dup dX10_init_52 (show (2 : Nat) ≠ 1 by decide) ?_
  show Ev _ _ _ _ 53 31 _ _ [(2, 0)] [(2, (30 : Int)), (2, (30 : Int)), (2, (0 : Int))]
  refine ev_invIN (k := 30) (av := []) (st := [(2, (30 : Int)), (2, (0 : Int))]) dX10_init_53 ml_X10_31 mi_X6_init rfl (by decide) rfl rfl ⟨Nat.le_of_ble_eq_true rfl, Nat.le_of_ble_eq_true rfl⟩ (Nat.le_of_ble_eq_true rfl) (c_X6_init_31 _ _) ⟨by decide, by decide⟩ ?_
  show Ev _ _ _ _ 56 34 (rc_X6_init_31 _) (sc_X6_init_31 _) _ _
  show Ev _ _ _ _ 56 34 _ _ [(2, 0)] [(2, (30 : Int)), (2, (0 : Int))]
  refine ev_putrF (j := 5) dX10_init_56 cf_X10 wf_X10_32 sp0 (by decide) (by decide) rfl rfl rfl rfl (fun z => absurd z (by decide +kernel)) ?_
  show Ev _ _ _ _ 59 34 _ _ [(2, 0)] []
  refine ev_aload_n dX10_init_59 rfl (by decide) ?_
  show Ev _ _ _ _ 60 34 _ _ [(2, 0)] [(2, (0 : Int))]
  refine ev_iconst dX10_init_60 (by decide) ?_
  show Ev _ _ _ _ 61 34 _ _ [(2, 0)] [(0, (5 : Int)), (2, (0 : Int))]
  refine ev_newi (N := 5) dX10_init_61 wyint sp34 (by decide) (by decide) ?_
  show Ev _ _ _ _ 63 35 _ _ [(2, 0)] [(2, (34 : Int)), (2, (0 : Int))]
  refine ev_putrF (j := 6) dX10_init_63 cf_X10 wf_X10_36 sp0 (by decide) (by decide) rfl rfl rfl rfl (fun z => absurd z (by decide +kernel)) ?_
  show Ev _ _ _ _ 66 35 _ _ [(2, 0)] []
  refine ev_aload_n dX10_init_66 rfl (by decide) ?_
  show Ev _ _ _ _ 67 35 _ _ [(2, 0)] [(2, (0 : Int))]
  refine ev_new dX10_init_67 cf_X4 wk_X10_40 wi_X4 wz_X4 sp35 (by decide) ?_
  show Ev _ _ _ _ 70 36 _ _ [(2, 0)] [(2, (35 : Int)), (2, (0 : Int))]
  refine ev_dup dX10_init_70 (show (2 : Nat) ≠ 1 by decide) ?_
  show Ev _ _ _ _ 71 36 _ _ [(2, 0)] [(2, (35 : Int)), (2, (35 : Int)), (2, (0 : Int))]
  refine ev_invIN (k := 35) (av := []) (st := [(2, (35 : Int)), (2, (0 : Int))]) dX10_init_71 ml_X10_42 mi_X4_init rfl (by decide) rfl rfl ⟨Nat.le_of_ble_eq_true rfl, Nat.le_of_ble_eq_true rfl⟩ (Nat.le_of_ble_eq_true rfl) (c_X4_init_36 _ _) ⟨by decide, by decide⟩ ?_
  show Ev _ _ _ _ 74 43 (rc_X4_init_36 _) (sc_X4_init_36 _) _ _
  show Ev _ _ _ _ 74 43 _ _ [(2, 0)] [(2, (35 : Int)), (2, (0 : Int))]
  refine ev_putrF (j := 7) dX10_init_74 cf_X10 wf_X10_43 sp0 (by decide) (by decide) rfl rfl rfl rfl (fun z => absurd z (by decide +kernel)) ?_
  show Ev _ _ _ _ 77 43 _ _ [(2, 0)] []
  refine ev_aload_n dX10_init_77 rfl (by decide) ?_
  show Ev _ _ _ _ 78 43 _ _ [(2, 0)] [(2, (0 : Int))]
  refine ev_new dX10_init_78 cf_X9 wk_X10_47 wi_X9 wz_X9 sp43 (by decide) ?_
  show Ev _ _ _ _ 81 44 _ _ [(2, 0)] [(2, (43 : Int)), (2, (0 : Int))]
  refine ev_dup dX10_init_81 (show (2 : Nat) ≠ 1 by decide) ?_
  show Ev _ _ _ _ 82 44 _ _ [(2, 0)] [(2, (43 : Int)), (2, (43 : Int)), (2, (0 : Int))]
  refine ev_invI (k := 43) (av := []) (st := [(2, (43 : Int)), (2, (0 : Int))]) dX10_init_82 ml_X10_49 mi_X9_init rfl (by decide) rfl rfl ⟨Nat.le_of_ble_eq_true rfl, Nat.le_of_ble_eq_true rfl⟩ (Nat.le_of_ble_eq_true rfl) (c_X9_init_44 _ _) ⟨by decide, by decide⟩ ?_
  show Ev _ _ _ _ 85 154 (rc_X9_init_44 _) (sc_X9_init_44 _) _ _
  show Ev _ _ _ _ 85 154 _ _ [(2, 0)] [(2, (43 : Int)), (2, (0 : Int))]
  refine ev_putrF (j := 8) dX10_init_85 cf_X10 wf_X10_50 sp0 (by decide) (by decide) rfl rfl rfl rfl (fun z => absurd z (by decide +kernel)) ?_
  show Ev _ _ _ _ 88 154 _ _ [(2, 0)] []
  refine ev_aload_n dX10_init_88 rfl (by decide) ?_
  show Ev _ _ _ _ 89 154 _ _ [(2, 0)] [(2, (0 : Int))]
  refine ev_new dX10_init_89 cf_X8 wk_X10_54 wi_X8 wz_X8 sp154 (by decide) ?_
  show Ev _ _ _ _ 92 155 _ _ [(2, 0)] [(2, (154 : Int)), (2, (0 : Int))]
  refine ev_dup dX10_init_92 (show (2 : Nat) ≠ 1 by decide) ?_
  show Ev _ _ _ _ 93 155 _ _ [(2, 0)] [(2, (154 : Int)), (2, (154 : Int)), (2, (0 : Int))]
  refine ev_invIN (k := 154) (av := []) (st := [(2, (154 : Int)), (2, (0 : Int))]) dX10_init_93 ml_X10_56 mi_X8_init rfl (by decide) rfl rfl ⟨Nat.le_of_ble_eq_true rfl, Nat.le_of_ble_eq_true rfl⟩ (Nat.le_of_ble_eq_true rfl) (c_X8_init_155 _ _) ⟨by decide, by decide⟩ ?_
  show Ev _ _ _ _ 96 164 (rc_X8_init_155 _) (sc_X8_init_155 _) _ _
  show Ev _ _ _ _ 96 164 _ _ [(2, 0)] [(2, (154 : Int)), (2, (0 : Int))]
  refine ev_putrF (j := 9) dX10_init_96 cf_X10 wf_X10_57 sp0 (by decide) (by decide) rfl rfl rfl rfl (fun z => absurd z (by decide +kernel)) ?_
  show Ev _ _ _ _ 99 164 _ _ [(2, 0)] []
  refine ev_aload_n dX10_init_99 rfl (by decide) ?_
  show Ev _ _ _ _ 100 164 _ _ [(2, 0)] [(2, (0 : Int))]
  refine ev_new dX10_init_100 cf_X1 wk_X10_61 wi_X1 wz_X1 sp164 (by decide) ?_
  show Ev _ _ _ _ 103 165 _ _ [(2, 0)] [(2, (164 : Int)), (2, (0 : Int))]
  refine ev_dup dX10_init_103 (show (2 : Nat) ≠ 1 by decide) ?_
  show Ev _ _ _ _ 104 165 _ _ [(2, 0)] [(2, (164 : Int)), (2, (164 : Int)), (2, (0 : Int))]
  refine ev_invIN (k := 164) (av := []) (st := [(2, (164 : Int)), (2, (0 : Int))]) dX10_init_104 ml_X10_63 mi_X1_init rfl (by decide) rfl rfl ⟨Nat.le_of_ble_eq_true rfl, Nat.le_of_ble_eq_true rfl⟩ (Nat.le_of_ble_eq_true rfl) (c_X1_init_165 _ _) ⟨by decide, by decide⟩ ?_
  show Ev _ _ _ _ 107 171 (rc_X1_init_165 _) (sc_X1_init_165 _) _ _
  show Ev _ _ _ _ 107 171 _ _ [(2, 0)] [(2, (164 : Int)), (2, (0 : Int))]
  refine ev_putrF (j := 10) dX10_init_107 cf_X10 wf_X10_64 sp0 (by decide) (by decide) rfl rfl rfl rfl (fun z => absurd z (by decide +kernel)) ?_
  show Ev _ _ _ _ 110 171 _ _ [(2, 0)] []
  refine ev_aload_n dX10_init_110 rfl (by decide) ?_
  show Ev _ _ _ _ 111 171 _ _ [(2, 0)] [(2, (0 : Int))]
  refine ev_new dX10_init_111 cf_X5 wk_X10_68 wi_X5 wz_X5 sp171 (by decide) ?_
  show Ev _ _ _ _ 114 172 _ _ [(2, 0)] [(2, (171 : Int)), (2, (0 : Int))]
  refine ev_dup dX10_init_114 (show (2 : Nat) ≠ 1 by decide) ?_
  show Ev _ _ _ _ 115 172 _ _ [(2, 0)] [(2, (171 : Int)), (2, (171 : Int)), (2, (0 : Int))]
  refine ev_invIN (k := 171) (av := []) (st := [(2, (171 : Int)), (2, (0 : Int))]) dX10_init_115 ml_X10_70 mi_X5_init rfl (by decide) rfl rfl ⟨Nat.le_of_ble_eq_true rfl, Nat.le_of_ble_eq_true rfl⟩ (Nat.le_of_ble_eq_true rfl) (c_X5_init_172 _ _) ⟨by decide, by decide⟩ ?_
  show Ev _ _ _ _ 118 179 (rc_X5_init_172 _) (sc_X5_init_172 _) _ _
  show Ev _ _ _ _ 118 179 _ _ [(2, 0)] [(2, (171 : Int)), (2, (0 : Int))]
  refine ev_putrF (j := 11) dX10_init_118 cf_X10 wf_X10_71 sp0 (by decide) (by decide) rfl rfl rfl rfl (fun z => absurd z (by decide +kernel)) ?_
  show Ev _ _ _ _ 121 179 _ _ [(2, 0)] []
  refine ev_aload_n dX10_init_121 rfl (by decide) ?_
  show Ev _ _ _ _ 122 179 _ _ [(2, 0)] [(2, (0 : Int))]
  refine ev_bipush dX10_init_122 (by decide) (by decide) ?_
  show Ev _ _ _ _ 124 179 _ _ [(2, 0)] [(0, (48 : Int)), (2, (0 : Int))]
  refine ev_newi (N := 48) dX10_init_124 wyint sp179 (by decide) (by decide) ?_
  show Ev _ _ _ _ 126 180 _ _ [(2, 0)] [(2, (179 : Int)), (2, (0 : Int))]
  refine ev_putrF (j := 12) dX10_init_126 cf_X10 wf_X10_75 sp0 (by decide) (by decide) rfl rfl rfl rfl (fun z => absurd z (by decide +kernel)) ?_
  show Ev _ _ _ _ 129 180 _ _ [(2, 0)] []
  refine ev_aload_n dX10_init_129 rfl (by decide) ?_
  show Ev _ _ _ _ 130 180 _ _ [(2, 0)] [(2, (0 : Int))]
  refine ev_bipush dX10_init_130 (by decide) (by decide) ?_
  show Ev _ _ _ _ 132 180 _ _ [(2, 0)] [(0, (48 : Int)), (2, (0 : Int))]
  refine ev_newi (N := 48) dX10_init_132 wyint sp180 (by decide) (by decide) ?_
  show Ev _ _ _ _ 134 181 _ _ [(2, 0)] [(2, (180 : Int)), (2, (0 : Int))]
  refine ev_putrF (j := 13) dX10_init_134 cf_X10 wf_X10_78 sp0 (by decide) (by decide) rfl rfl rfl rfl (fun z => absurd z (by decide +kernel)) ?_
  show Ev _ _ _ _ 137 181 _ _ [(2, 0)] []
  exact ev_vret dX10_init_137 rfl rfl
