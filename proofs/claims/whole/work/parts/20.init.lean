/-! CONSTRUCTORS (by program) -/
abbrev M_X0_init : MD := (RX0, cX0_init, 1, (none : Option FieldType), 1, 20, true, fun _ _ _ => True)
abbrev M_X1_init : MD := (RX1, cX1_init, 1, (none : Option FieldType), 1, 20, true, fun _ _ _ => True)
abbrev M_X3_init : MD := (RX3, cX3_init, 1, (none : Option FieldType), 1, 20, true, fun _ _ _ => True)
abbrev M_X4_init : MD := (RX4, cX4_init, 1, (none : Option FieldType), 2, 40, true, fun _ _ _ => True)
abbrev M_X5_init : MD := (RX5, cX5_init, 1, (none : Option FieldType), 1, 20, true, fun _ _ _ => True)
abbrev M_X6_init : MD := (RX6, cX6_init, 1, (none : Option FieldType), 1, 20, true, fun _ _ _ => True)
abbrev M_X7_init : MD := (RX7, cX7_init, 1, (none : Option FieldType), 1, 20, true, fun _ _ _ => True)
abbrev M_X8_init : MD := (RX8, cX8_init, 1, (none : Option FieldType), 1, 20, true, fun _ _ _ => True)
abbrev M_X9_init : MD := (RX9, cX9_init, 4, (none : Option FieldType), 2, 40, true, fun _ _ _ => True)
abbrev M_X10_init : MD := (RX10, cX10_init, 1, (none : Option FieldType), 3, 63, true, fun _ _ _ => True)
abbrev M_X11_init : MD := (RX11, cX11_init, 1, (none : Option FieldType), 1, 20, true, fun _ _ _ => True)
theorem wo_X10_3 : Cond.methodLink RX10 3 Lib.objectInit ∈ WS := inWS 116 (by decide +kernel) (by decide +kernel)
theorem wo_i : Cond.instanceMethod Lib.objectInit ∈ WS := inWS 117 (by decide +kernel) (by decide +kernel)
theorem wo_c : Cond.code Lib.objectInit ⟨#[0xb1]⟩ 1 none ∈ WS := inWS 118 (by decide +kernel) (by decide +kernel)
theorem wk_X10_9 : Cond.classLink RX10 9 RX0 ∈ WS := inWS 119 (by decide +kernel) (by decide +kernel)
theorem wi_X0 : Cond.instantiable RX0 14 ∈ WS := inWS 120 (by decide +kernel) (by decide +kernel)
theorem wz_X0 : Cond.initialized RX0 ∈ WS := inWS 92 (by decide +kernel) (by decide +kernel)
theorem wo_X0_3 : Cond.methodLink RX0 3 Lib.objectInit ∈ WS := inWS 124 (by decide +kernel) (by decide +kernel)
theorem wyint : Cond.arrayClass .int ∈ WS := inWS 203 (by decide +kernel) (by decide +kernel)
theorem ml_X10_11 : MLn RX10 11 yX0_init M_X0_init := ⟨⟨"ClashDays", List.mem_of_getElem? (i := 0) rfl⟩, inWS 92 (by decide +kernel) (by decide +kernel), inWS 123 (by decide +kernel) (by decide +kernel), by decide +kernel⟩
theorem mi_X0_init : Cond.instanceMethod yX0_init ∈ WS := inWS 122 (by decide +kernel) (by decide +kernel)
theorem wk_X10_22 : Cond.classLink RX10 22 RX7 ∈ WS := inWS 204 (by decide +kernel) (by decide +kernel)
theorem wi_X7 : Cond.instantiable RX7 5 ∈ WS := inWS 205 (by decide +kernel) (by decide +kernel)
theorem wz_X7 : Cond.initialized RX7 ∈ WS := inWS 93 (by decide +kernel) (by decide +kernel)
theorem wo_X7_3 : Cond.methodLink RX7 3 Lib.objectInit ∈ WS := inWS 209 (by decide +kernel) (by decide +kernel)
theorem ml_X10_24 : MLn RX10 24 yX7_init M_X7_init := ⟨⟨"ClashDays", List.mem_of_getElem? (i := 1) rfl⟩, inWS 93 (by decide +kernel) (by decide +kernel), inWS 208 (by decide +kernel) (by decide +kernel), by decide +kernel⟩
theorem mi_X7_init : Cond.instanceMethod yX7_init ∈ WS := inWS 207 (by decide +kernel) (by decide +kernel)
theorem wk_X10_29 : Cond.classLink RX10 29 RX6 ∈ WS := inWS 226 (by decide +kernel) (by decide +kernel)
theorem wi_X6 : Cond.instantiable RX6 3 ∈ WS := inWS 227 (by decide +kernel) (by decide +kernel)
theorem wz_X6 : Cond.initialized RX6 ∈ WS := inWS 94 (by decide +kernel) (by decide +kernel)
theorem wo_X6_3 : Cond.methodLink RX6 3 Lib.objectInit ∈ WS := inWS 231 (by decide +kernel) (by decide +kernel)
theorem wylong : Cond.arrayClass .long ∈ WS := inWS 242 (by decide +kernel) (by decide +kernel)
theorem ml_X10_31 : MLn RX10 31 yX6_init M_X6_init := ⟨⟨"ClashDays", List.mem_of_getElem? (i := 2) rfl⟩, inWS 94 (by decide +kernel) (by decide +kernel), inWS 230 (by decide +kernel) (by decide +kernel), by decide +kernel⟩
theorem mi_X6_init : Cond.instanceMethod yX6_init ∈ WS := inWS 229 (by decide +kernel) (by decide +kernel)
theorem wk_X10_40 : Cond.classLink RX10 40 RX4 ∈ WS := inWS 243 (by decide +kernel) (by decide +kernel)
theorem wi_X4 : Cond.instantiable RX4 1 ∈ WS := inWS 244 (by decide +kernel) (by decide +kernel)
theorem wz_X4 : Cond.initialized RX4 ∈ WS := inWS 95 (by decide +kernel) (by decide +kernel)
theorem wo_X4_3 : Cond.methodLink RX4 3 Lib.objectInit ∈ WS := inWS 248 (by decide +kernel) (by decide +kernel)
theorem wk_X4_9 : Cond.classLink RX4 9 RX3 ∈ WS := inWS 249 (by decide +kernel) (by decide +kernel)
theorem wi_X3 : Cond.instantiable RX3 14 ∈ WS := inWS 250 (by decide +kernel) (by decide +kernel)
theorem wz_X3 : Cond.initialized RX3 ∈ WS := inWS 96 (by decide +kernel) (by decide +kernel)
theorem wo_X3_3 : Cond.methodLink RX3 3 Lib.objectInit ∈ WS := inWS 254 (by decide +kernel) (by decide +kernel)
theorem ml_X4_11 : MLn RX4 11 yX3_init M_X3_init := ⟨⟨"ClashDays", List.mem_of_getElem? (i := 4) rfl⟩, inWS 96 (by decide +kernel) (by decide +kernel), inWS 253 (by decide +kernel) (by decide +kernel), by decide +kernel⟩
theorem mi_X3_init : Cond.instanceMethod yX3_init ∈ WS := inWS 252 (by decide +kernel) (by decide +kernel)
theorem ml_X10_42 : MLn RX10 42 yX4_init M_X4_init := ⟨⟨"ClashDays", List.mem_of_getElem? (i := 3) rfl⟩, inWS 95 (by decide +kernel) (by decide +kernel), inWS 247 (by decide +kernel) (by decide +kernel), by decide +kernel⟩
theorem mi_X4_init : Cond.instanceMethod yX4_init ∈ WS := inWS 246 (by decide +kernel) (by decide +kernel)
theorem wk_X10_47 : Cond.classLink RX10 47 RX9 ∈ WS := inWS 302 (by decide +kernel) (by decide +kernel)
theorem wi_X9 : Cond.instantiable RX9 5 ∈ WS := inWS 303 (by decide +kernel) (by decide +kernel)
theorem wz_X9 : Cond.initialized RX9 ∈ WS := inWS 97 (by decide +kernel) (by decide +kernel)
theorem wo_X9_3 : Cond.methodLink RX9 3 Lib.objectInit ∈ WS := inWS 307 (by decide +kernel) (by decide +kernel)
theorem wk_X9_9 : Cond.classLink RX9 9 "ClashDays$Week" ∈ WS := inWS 308 (by decide +kernel) (by decide +kernel)
theorem wyboolean : Cond.arrayClass .boolean ∈ WS := inWS 356 (by decide +kernel) (by decide +kernel)
theorem wi_X8 : Cond.instantiable RX8 9 ∈ WS := inWS 310 (by decide +kernel) (by decide +kernel)
theorem wz_X8 : Cond.initialized RX8 ∈ WS := inWS 98 (by decide +kernel) (by decide +kernel)
theorem wo_X8_3 : Cond.methodLink RX8 3 Lib.objectInit ∈ WS := inWS 314 (by decide +kernel) (by decide +kernel)
theorem ml_X9_33 : MLn RX9 33 yX8_init M_X8_init := ⟨⟨"ClashDays", List.mem_of_getElem? (i := 5) rfl⟩, inWS 98 (by decide +kernel) (by decide +kernel), inWS 313 (by decide +kernel) (by decide +kernel), by decide +kernel⟩
theorem mi_X8_init : Cond.instanceMethod yX8_init ∈ WS := inWS 312 (by decide +kernel) (by decide +kernel)
theorem ml_X10_49 : ML RX10 49 yX9_init M_X9_init := ⟨inWS 304 (by decide +kernel) (by decide +kernel), inWS 97 (by decide +kernel) (by decide +kernel), inWS 306 (by decide +kernel) (by decide +kernel), by decide +kernel⟩
theorem mi_X9_init : Cond.instanceMethod yX9_init ∈ WS := inWS 305 (by decide +kernel) (by decide +kernel)
theorem wk_X10_56 : Cond.classLink RX10 56 "ClashDays$Week" ∈ WS := inWS 373 (by decide +kernel) (by decide +kernel)
theorem ml_X10_58 : MLn RX10 58 yX8_init M_X8_init := ⟨⟨"ClashDays", List.mem_of_getElem? (i := 6) rfl⟩, inWS 98 (by decide +kernel) (by decide +kernel), inWS 313 (by decide +kernel) (by decide +kernel), by decide +kernel⟩
theorem wk_X10_63 : Cond.classLink RX10 63 RX1 ∈ WS := inWS 375 (by decide +kernel) (by decide +kernel)
theorem wi_X1 : Cond.instantiable RX1 10 ∈ WS := inWS 376 (by decide +kernel) (by decide +kernel)
theorem wz_X1 : Cond.initialized RX1 ∈ WS := inWS 99 (by decide +kernel) (by decide +kernel)
theorem wo_X1_3 : Cond.methodLink RX1 3 Lib.objectInit ∈ WS := inWS 380 (by decide +kernel) (by decide +kernel)
theorem ml_X10_65 : MLn RX10 65 yX1_init M_X1_init := ⟨⟨"ClashDays", List.mem_of_getElem? (i := 7) rfl⟩, inWS 99 (by decide +kernel) (by decide +kernel), inWS 379 (by decide +kernel) (by decide +kernel), by decide +kernel⟩
theorem mi_X1_init : Cond.instanceMethod yX1_init ∈ WS := inWS 378 (by decide +kernel) (by decide +kernel)
theorem wk_X10_70 : Cond.classLink RX10 70 RX5 ∈ WS := inWS 412 (by decide +kernel) (by decide +kernel)
theorem wi_X5 : Cond.instantiable RX5 9 ∈ WS := inWS 413 (by decide +kernel) (by decide +kernel)
theorem wz_X5 : Cond.initialized RX5 ∈ WS := inWS 100 (by decide +kernel) (by decide +kernel)
theorem wo_X5_3 : Cond.methodLink RX5 3 Lib.objectInit ∈ WS := inWS 417 (by decide +kernel) (by decide +kernel)
theorem ml_X10_72 : MLn RX10 72 yX5_init M_X5_init := ⟨⟨"ClashDays", List.mem_of_getElem? (i := 8) rfl⟩, inWS 100 (by decide +kernel) (by decide +kernel), inWS 416 (by decide +kernel) (by decide +kernel), by decide +kernel⟩
theorem mi_X5_init : Cond.instanceMethod yX5_init ∈ WS := inWS 415 (by decide +kernel) (by decide +kernel)
theorem wo_X11_1 : Cond.methodLink RX11 1 Lib.objectInit ∈ WS := inWS 1304 (by decide +kernel) (by decide +kernel)
theorem wychar : Cond.arrayClass .char ∈ WS := inWS 1441 (by decide +kernel) (by decide +kernel)
def rc_X0_init_2 (ρ : Mem) : Mem := (mup (mup (mup (mup (mup (mup (mup (mup ρ 1 0 2) 1 1 3) 1 2 4) 1 3 5) 1 4 6) 1 5 7) 1 6 8) 1 7 9)
def sc_X0_init_2 (σ : Mem) : Mem := (mup (mup (mup σ 1 11 (24)) 1 12 (1)) 1 13 (1))
set_option maxHeartbeats 4000000 in
set_option maxRecDepth 20000 in
theorem c_X0_init_2 (ρ σ : Mem) : Ms yX0_init M_X0_init 2 10 [(2, 1)] ρ σ (none, rc_X0_init_2 ρ, sc_X0_init_2 σ) := by
  refine Ms.of 0 (by decide +kernel) rfl (fun _ => rfl) (fun _ _ _ => trivial) rfl rfl ?_
  show Ev M_X0_init 2 10 _ 0 2 ρ σ [(2, 1)] []
  show Ev _ _ _ _ 0 2 _ _ [(2, 1)] []
  refine ev_aload_n dX0_init_0 rfl (by decide) ?_
  show Ev _ _ _ _ 1 2 _ _ [(2, 1)] [(2, (1 : Int))]
  refine ev_oinit dX0_init_1 wo_X0_3 wo_i wo_c (by decide) (by decide) (by decide) ?_
  show Ev _ _ _ _ 4 2 _ _ [(2, 1)] []
  refine ev_aload_n dX0_init_4 rfl (by decide) ?_
  show Ev _ _ _ _ 5 2 _ _ [(2, 1)] [(2, (1 : Int))]
  refine ev_bipush dX0_init_5 (by decide) (by decide) ?_
  show Ev _ _ _ _ 7 2 _ _ [(2, 1)] [(0, (12 : Int)), (2, (1 : Int))]
  refine ev_newi (N := 12) dX0_init_7 wyint sp2 (by decide) (by decide) ?_
  show Ev _ _ _ _ 9 3 _ _ [(2, 1)] [(2, (2 : Int)), (2, (1 : Int))]
  refine ev_putrF (j := 0) dX0_init_9 cf_X0 wf_X0_9 sp1 (by decide) (by decide) rfl rfl rfl rfl (fun z => absurd z (by decide +kernel)) ?_
  show Ev _ _ _ _ 12 3 _ _ [(2, 1)] []
  refine ev_aload_n dX0_init_12 rfl (by decide) ?_
  show Ev _ _ _ _ 13 3 _ _ [(2, 1)] [(2, (1 : Int))]
  refine ev_bipush dX0_init_13 (by decide) (by decide) ?_
  show Ev _ _ _ _ 15 3 _ _ [(2, 1)] [(0, (12 : Int)), (2, (1 : Int))]
  refine ev_newi (N := 12) dX0_init_15 wyint sp3 (by decide) (by decide) ?_
  show Ev _ _ _ _ 17 4 _ _ [(2, 1)] [(2, (3 : Int)), (2, (1 : Int))]
  refine ev_putrF (j := 1) dX0_init_17 cf_X0 wf_X0_15 sp1 (by decide) (by decide) rfl rfl rfl rfl (fun z => absurd z (by decide +kernel)) ?_
  show Ev _ _ _ _ 20 4 _ _ [(2, 1)] []
  refine ev_aload_n dX0_init_20 rfl (by decide) ?_
  show Ev _ _ _ _ 21 4 _ _ [(2, 1)] [(2, (1 : Int))]
  refine ev_bipush dX0_init_21 (by decide) (by decide) ?_
  show Ev _ _ _ _ 23 4 _ _ [(2, 1)] [(0, (12 : Int)), (2, (1 : Int))]
  refine ev_newi (N := 12) dX0_init_23 wyint sp4 (by decide) (by decide) ?_
  show Ev _ _ _ _ 25 5 _ _ [(2, 1)] [(2, (4 : Int)), (2, (1 : Int))]
  refine ev_putrF (j := 2) dX0_init_25 cf_X0 wf_X0_18 sp1 (by decide) (by decide) rfl rfl rfl rfl (fun z => absurd z (by decide +kernel)) ?_
  show Ev _ _ _ _ 28 5 _ _ [(2, 1)] []
  refine ev_aload_n dX0_init_28 rfl (by decide) ?_
  show Ev _ _ _ _ 29 5 _ _ [(2, 1)] [(2, (1 : Int))]
  refine ev_bipush dX0_init_29 (by decide) (by decide) ?_
  show Ev _ _ _ _ 31 5 _ _ [(2, 1)] [(0, (10 : Int)), (2, (1 : Int))]
  refine ev_newi (N := 10) dX0_init_31 wyint sp5 (by decide) (by decide) ?_
  show Ev _ _ _ _ 33 6 _ _ [(2, 1)] [(2, (5 : Int)), (2, (1 : Int))]
  refine ev_putrF (j := 3) dX0_init_33 cf_X0 wf_X0_21 sp1 (by decide) (by decide) rfl rfl rfl rfl (fun z => absurd z (by decide +kernel)) ?_
  show Ev _ _ _ _ 36 6 _ _ [(2, 1)] []
  refine ev_aload_n dX0_init_36 rfl (by decide) ?_
  show Ev _ _ _ _ 37 6 _ _ [(2, 1)] [(2, (1 : Int))]
  refine ev_bipush dX0_init_37 (by decide) (by decide) ?_
  show Ev _ _ _ _ 39 6 _ _ [(2, 1)] [(0, (10 : Int)), (2, (1 : Int))]
  refine ev_newi (N := 10) dX0_init_39 wyint sp6 (by decide) (by decide) ?_
  show Ev _ _ _ _ 41 7 _ _ [(2, 1)] [(2, (6 : Int)), (2, (1 : Int))]
  refine ev_putrF (j := 4) dX0_init_41 cf_X0 wf_X0_24 sp1 (by decide) (by decide) rfl rfl rfl rfl (fun z => absurd z (by decide +kernel)) ?_
  show Ev _ _ _ _ 44 7 _ _ [(2, 1)] []
  refine ev_aload_n dX0_init_44 rfl (by decide) ?_
  show Ev _ _ _ _ 45 7 _ _ [(2, 1)] [(2, (1 : Int))]
  refine ev_bipush dX0_init_45 (by decide) (by decide) ?_
  show Ev _ _ _ _ 47 7 _ _ [(2, 1)] [(0, (10 : Int)), (2, (1 : Int))]
  refine ev_newi (N := 10) dX0_init_47 wyint sp7 (by decide) (by decide) ?_
  show Ev _ _ _ _ 49 8 _ _ [(2, 1)] [(2, (7 : Int)), (2, (1 : Int))]
  refine ev_putrF (j := 5) dX0_init_49 cf_X0 wf_X0_27 sp1 (by decide) (by decide) rfl rfl rfl rfl (fun z => absurd z (by decide +kernel)) ?_
  show Ev _ _ _ _ 52 8 _ _ [(2, 1)] []
  refine ev_aload_n dX0_init_52 rfl (by decide) ?_
  show Ev _ _ _ _ 53 8 _ _ [(2, 1)] [(2, (1 : Int))]
  refine ev_bipush dX0_init_53 (by decide) (by decide) ?_
  show Ev _ _ _ _ 55 8 _ _ [(2, 1)] [(0, (10 : Int)), (2, (1 : Int))]
  refine ev_newi (N := 10) dX0_init_55 wyint sp8 (by decide) (by decide) ?_
  show Ev _ _ _ _ 57 9 _ _ [(2, 1)] [(2, (8 : Int)), (2, (1 : Int))]
  refine ev_putrF (j := 6) dX0_init_57 cf_X0 wf_X0_30 sp1 (by decide) (by decide) rfl rfl rfl rfl (fun z => absurd z (by decide +kernel)) ?_
  show Ev _ _ _ _ 60 9 _ _ [(2, 1)] []
  refine ev_aload_n dX0_init_60 rfl (by decide) ?_
  show Ev _ _ _ _ 61 9 _ _ [(2, 1)] [(2, (1 : Int))]
  refine ev_bipush dX0_init_61 (by decide) (by decide) ?_
  show Ev _ _ _ _ 63 9 _ _ [(2, 1)] [(0, (6 : Int)), (2, (1 : Int))]
  refine ev_newi (N := 6) dX0_init_63 wyint sp9 (by decide) (by decide) ?_
  show Ev _ _ _ _ 65 10 _ _ [(2, 1)] [(2, (9 : Int)), (2, (1 : Int))]
  refine ev_putrF (j := 7) dX0_init_65 cf_X0 wf_X0_33 sp1 (by decide) (by decide) rfl rfl rfl rfl (fun z => absurd z (by decide +kernel)) ?_
  show Ev _ _ _ _ 68 10 _ _ [(2, 1)] []
  refine ev_aload_n dX0_init_68 rfl (by decide) ?_
  show Ev _ _ _ _ 69 10 _ _ [(2, 1)] [(2, (1 : Int))]
  refine ev_bipush dX0_init_69 (by decide) (by decide) ?_
  show Ev _ _ _ _ 71 10 _ _ [(2, 1)] [(0, (24 : Int)), (2, (1 : Int))]
  refine ev_putf (j := 11) (t := 0) dX0_init_71 cf_X0 wf_X0_36 sp1 (by decide) (by decide) rfl (by decide) (by decide) rfl (fun z => absurd z (by decide +kernel)) ?_
  show Ev _ _ _ _ 74 10 _ _ [(2, 1)] []
  refine ev_aload_n dX0_init_74 rfl (by decide) ?_
  show Ev _ _ _ _ 75 10 _ _ [(2, 1)] [(2, (1 : Int))]
  refine ev_iconst dX0_init_75 (by decide) ?_
  show Ev _ _ _ _ 76 10 _ _ [(2, 1)] [(0, (1 : Int)), (2, (1 : Int))]
  refine ev_putf (j := 12) (t := 0) dX0_init_76 cf_X0 wf_X0_40 sp1 (by decide) (by decide) rfl (by decide) (by decide) rfl (fun z => absurd z (by decide +kernel)) ?_
  show Ev _ _ _ _ 79 10 _ _ [(2, 1)] []
  refine ev_aload_n dX0_init_79 rfl (by decide) ?_
  show Ev _ _ _ _ 80 10 _ _ [(2, 1)] [(2, (1 : Int))]
  refine ev_iconst dX0_init_80 (by decide) ?_
  show Ev _ _ _ _ 81 10 _ _ [(2, 1)] [(0, (1 : Int)), (2, (1 : Int))]
  refine ev_putf (j := 13) (t := 0) dX0_init_81 cf_X0 wf_X0_43 sp1 (by decide) (by decide) rfl (by decide) (by decide) rfl (fun z => absurd z (by decide +kernel)) ?_
  show Ev _ _ _ _ 84 10 _ _ [(2, 1)] []
  exact ev_vret dX0_init_84 rfl rfl
def rc_X0_init_11 (ρ : Mem) : Mem := (mup (mup (mup (mup (mup (mup (mup (mup ρ 10 0 11) 10 1 12) 10 2 13) 10 3 14) 10 4 15) 10 5 16) 10 6 17) 10 7 18)
def sc_X0_init_11 (σ : Mem) : Mem := (mup (mup (mup σ 10 11 (24)) 10 12 (1)) 10 13 (1))
set_option maxHeartbeats 4000000 in
set_option maxRecDepth 20000 in
theorem c_X0_init_11 (ρ σ : Mem) : Ms yX0_init M_X0_init 11 19 [(2, 10)] ρ σ (none, rc_X0_init_11 ρ, sc_X0_init_11 σ) := by
  refine Ms.of 0 (by decide +kernel) rfl (fun _ => rfl) (fun _ _ _ => trivial) rfl rfl ?_
  show Ev M_X0_init 11 19 _ 0 11 ρ σ [(2, 10)] []
  show Ev _ _ _ _ 0 11 _ _ [(2, 10)] []
  refine ev_aload_n dX0_init_0 rfl (by decide) ?_
  show Ev _ _ _ _ 1 11 _ _ [(2, 10)] [(2, (10 : Int))]
  refine ev_oinit dX0_init_1 wo_X0_3 wo_i wo_c (by decide) (by decide) (by decide) ?_
  show Ev _ _ _ _ 4 11 _ _ [(2, 10)] []
  refine ev_aload_n dX0_init_4 rfl (by decide) ?_
  show Ev _ _ _ _ 5 11 _ _ [(2, 10)] [(2, (10 : Int))]
  refine ev_bipush dX0_init_5 (by decide) (by decide) ?_
  show Ev _ _ _ _ 7 11 _ _ [(2, 10)] [(0, (12 : Int)), (2, (10 : Int))]
  refine ev_newi (N := 12) dX0_init_7 wyint sp11 (by decide) (by decide) ?_
  show Ev _ _ _ _ 9 12 _ _ [(2, 10)] [(2, (11 : Int)), (2, (10 : Int))]
  refine ev_putrF (j := 0) dX0_init_9 cf_X0 wf_X0_9 sp10 (by decide) (by decide) rfl rfl rfl rfl (fun z => absurd z (by decide +kernel)) ?_
  show Ev _ _ _ _ 12 12 _ _ [(2, 10)] []
  refine ev_aload_n dX0_init_12 rfl (by decide) ?_
  show Ev _ _ _ _ 13 12 _ _ [(2, 10)] [(2, (10 : Int))]
  refine ev_bipush dX0_init_13 (by decide) (by decide) ?_
  show Ev _ _ _ _ 15 12 _ _ [(2, 10)] [(0, (12 : Int)), (2, (10 : Int))]
  refine ev_newi (N := 12) dX0_init_15 wyint sp12 (by decide) (by decide) ?_
  show Ev _ _ _ _ 17 13 _ _ [(2, 10)] [(2, (12 : Int)), (2, (10 : Int))]
  refine ev_putrF (j := 1) dX0_init_17 cf_X0 wf_X0_15 sp10 (by decide) (by decide) rfl rfl rfl rfl (fun z => absurd z (by decide +kernel)) ?_
  show Ev _ _ _ _ 20 13 _ _ [(2, 10)] []
  refine ev_aload_n dX0_init_20 rfl (by decide) ?_
  show Ev _ _ _ _ 21 13 _ _ [(2, 10)] [(2, (10 : Int))]
  refine ev_bipush dX0_init_21 (by decide) (by decide) ?_
  show Ev _ _ _ _ 23 13 _ _ [(2, 10)] [(0, (12 : Int)), (2, (10 : Int))]
  refine ev_newi (N := 12) dX0_init_23 wyint sp13 (by decide) (by decide) ?_
  show Ev _ _ _ _ 25 14 _ _ [(2, 10)] [(2, (13 : Int)), (2, (10 : Int))]
  refine ev_putrF (j := 2) dX0_init_25 cf_X0 wf_X0_18 sp10 (by decide) (by decide) rfl rfl rfl rfl (fun z => absurd z (by decide +kernel)) ?_
  show Ev _ _ _ _ 28 14 _ _ [(2, 10)] []
  refine ev_aload_n dX0_init_28 rfl (by decide) ?_
  show Ev _ _ _ _ 29 14 _ _ [(2, 10)] [(2, (10 : Int))]
  refine ev_bipush dX0_init_29 (by decide) (by decide) ?_
  show Ev _ _ _ _ 31 14 _ _ [(2, 10)] [(0, (10 : Int)), (2, (10 : Int))]
  refine ev_newi (N := 10) dX0_init_31 wyint sp14 (by decide) (by decide) ?_
  show Ev _ _ _ _ 33 15 _ _ [(2, 10)] [(2, (14 : Int)), (2, (10 : Int))]
  refine ev_putrF (j := 3) dX0_init_33 cf_X0 wf_X0_21 sp10 (by decide) (by decide) rfl rfl rfl rfl (fun z => absurd z (by decide +kernel)) ?_
  show Ev _ _ _ _ 36 15 _ _ [(2, 10)] []
  refine ev_aload_n dX0_init_36 rfl (by decide) ?_
  show Ev _ _ _ _ 37 15 _ _ [(2, 10)] [(2, (10 : Int))]
  refine ev_bipush dX0_init_37 (by decide) (by decide) ?_
  show Ev _ _ _ _ 39 15 _ _ [(2, 10)] [(0, (10 : Int)), (2, (10 : Int))]
  refine ev_newi (N := 10) dX0_init_39 wyint sp15 (by decide) (by decide) ?_
  show Ev _ _ _ _ 41 16 _ _ [(2, 10)] [(2, (15 : Int)), (2, (10 : Int))]
  refine ev_putrF (j := 4) dX0_init_41 cf_X0 wf_X0_24 sp10 (by decide) (by decide) rfl rfl rfl rfl (fun z => absurd z (by decide +kernel)) ?_
  show Ev _ _ _ _ 44 16 _ _ [(2, 10)] []
  refine ev_aload_n dX0_init_44 rfl (by decide) ?_
  show Ev _ _ _ _ 45 16 _ _ [(2, 10)] [(2, (10 : Int))]
  refine ev_bipush dX0_init_45 (by decide) (by decide) ?_
  show Ev _ _ _ _ 47 16 _ _ [(2, 10)] [(0, (10 : Int)), (2, (10 : Int))]
  refine ev_newi (N := 10) dX0_init_47 wyint sp16 (by decide) (by decide) ?_
  show Ev _ _ _ _ 49 17 _ _ [(2, 10)] [(2, (16 : Int)), (2, (10 : Int))]
  refine ev_putrF (j := 5) dX0_init_49 cf_X0 wf_X0_27 sp10 (by decide) (by decide) rfl rfl rfl rfl (fun z => absurd z (by decide +kernel)) ?_
  show Ev _ _ _ _ 52 17 _ _ [(2, 10)] []
  refine ev_aload_n dX0_init_52 rfl (by decide) ?_
  show Ev _ _ _ _ 53 17 _ _ [(2, 10)] [(2, (10 : Int))]
  refine ev_bipush dX0_init_53 (by decide) (by decide) ?_
  show Ev _ _ _ _ 55 17 _ _ [(2, 10)] [(0, (10 : Int)), (2, (10 : Int))]
  refine ev_newi (N := 10) dX0_init_55 wyint sp17 (by decide) (by decide) ?_
  show Ev _ _ _ _ 57 18 _ _ [(2, 10)] [(2, (17 : Int)), (2, (10 : Int))]
  refine ev_putrF (j := 6) dX0_init_57 cf_X0 wf_X0_30 sp10 (by decide) (by decide) rfl rfl rfl rfl (fun z => absurd z (by decide +kernel)) ?_
  show Ev _ _ _ _ 60 18 _ _ [(2, 10)] []
  refine ev_aload_n dX0_init_60 rfl (by decide) ?_
  show Ev _ _ _ _ 61 18 _ _ [(2, 10)] [(2, (10 : Int))]
  refine ev_bipush dX0_init_61 (by decide) (by decide) ?_
  show Ev _ _ _ _ 63 18 _ _ [(2, 10)] [(0, (6 : Int)), (2, (10 : Int))]
  refine ev_newi (N := 6) dX0_init_63 wyint sp18 (by decide) (by decide) ?_
  show Ev _ _ _ _ 65 19 _ _ [(2, 10)] [(2, (18 : Int)), (2, (10 : Int))]
  refine ev_putrF (j := 7) dX0_init_65 cf_X0 wf_X0_33 sp10 (by decide) (by decide) rfl rfl rfl rfl (fun z => absurd z (by decide +kernel)) ?_
  show Ev _ _ _ _ 68 19 _ _ [(2, 10)] []
  refine ev_aload_n dX0_init_68 rfl (by decide) ?_
  show Ev _ _ _ _ 69 19 _ _ [(2, 10)] [(2, (10 : Int))]
  refine ev_bipush dX0_init_69 (by decide) (by decide) ?_
  show Ev _ _ _ _ 71 19 _ _ [(2, 10)] [(0, (24 : Int)), (2, (10 : Int))]
  refine ev_putf (j := 11) (t := 0) dX0_init_71 cf_X0 wf_X0_36 sp10 (by decide) (by decide) rfl (by decide) (by decide) rfl (fun z => absurd z (by decide +kernel)) ?_
  show Ev _ _ _ _ 74 19 _ _ [(2, 10)] []
  refine ev_aload_n dX0_init_74 rfl (by decide) ?_
  show Ev _ _ _ _ 75 19 _ _ [(2, 10)] [(2, (10 : Int))]
  refine ev_iconst dX0_init_75 (by decide) ?_
  show Ev _ _ _ _ 76 19 _ _ [(2, 10)] [(0, (1 : Int)), (2, (10 : Int))]
  refine ev_putf (j := 12) (t := 0) dX0_init_76 cf_X0 wf_X0_40 sp10 (by decide) (by decide) rfl (by decide) (by decide) rfl (fun z => absurd z (by decide +kernel)) ?_
  show Ev _ _ _ _ 79 19 _ _ [(2, 10)] []
  refine ev_aload_n dX0_init_79 rfl (by decide) ?_
  show Ev _ _ _ _ 80 19 _ _ [(2, 10)] [(2, (10 : Int))]
  refine ev_iconst dX0_init_80 (by decide) ?_
  show Ev _ _ _ _ 81 19 _ _ [(2, 10)] [(0, (1 : Int)), (2, (10 : Int))]
  refine ev_putf (j := 13) (t := 0) dX0_init_81 cf_X0 wf_X0_43 sp10 (by decide) (by decide) rfl (by decide) (by decide) rfl (fun z => absurd z (by decide +kernel)) ?_
  show Ev _ _ _ _ 84 19 _ _ [(2, 10)] []
  exact ev_vret dX0_init_84 rfl rfl
def rc_X0_init_20 (ρ : Mem) : Mem := (mup (mup (mup (mup (mup (mup (mup (mup ρ 19 0 20) 19 1 21) 19 2 22) 19 3 23) 19 4 24) 19 5 25) 19 6 26) 19 7 27)
def sc_X0_init_20 (σ : Mem) : Mem := (mup (mup (mup σ 19 11 (24)) 19 12 (1)) 19 13 (1))
set_option maxHeartbeats 4000000 in
set_option maxRecDepth 20000 in
theorem c_X0_init_20 (ρ σ : Mem) : Ms yX0_init M_X0_init 20 28 [(2, 19)] ρ σ (none, rc_X0_init_20 ρ, sc_X0_init_20 σ) := by
  refine Ms.of 0 (by decide +kernel) rfl (fun _ => rfl) (fun _ _ _ => trivial) rfl rfl ?_
  show Ev M_X0_init 20 28 _ 0 20 ρ σ [(2, 19)] []
  show Ev _ _ _ _ 0 20 _ _ [(2, 19)] []
  refine ev_aload_n dX0_init_0 rfl (by decide) ?_
  show Ev _ _ _ _ 1 20 _ _ [(2, 19)] [(2, (19 : Int))]
  refine ev_oinit dX0_init_1 wo_X0_3 wo_i wo_c (by decide) (by decide) (by decide) ?_
  show Ev _ _ _ _ 4 20 _ _ [(2, 19)] []
  refine ev_aload_n dX0_init_4 rfl (by decide) ?_
  show Ev _ _ _ _ 5 20 _ _ [(2, 19)] [(2, (19 : Int))]
  refine ev_bipush dX0_init_5 (by decide) (by decide) ?_
  show Ev _ _ _ _ 7 20 _ _ [(2, 19)] [(0, (12 : Int)), (2, (19 : Int))]
  refine ev_newi (N := 12) dX0_init_7 wyint sp20 (by decide) (by decide) ?_
  show Ev _ _ _ _ 9 21 _ _ [(2, 19)] [(2, (20 : Int)), (2, (19 : Int))]
  refine ev_putrF (j := 0) dX0_init_9 cf_X0 wf_X0_9 sp19 (by decide) (by decide) rfl rfl rfl rfl (fun z => absurd z (by decide +kernel)) ?_
  show Ev _ _ _ _ 12 21 _ _ [(2, 19)] []
  refine ev_aload_n dX0_init_12 rfl (by decide) ?_
  show Ev _ _ _ _ 13 21 _ _ [(2, 19)] [(2, (19 : Int))]
  refine ev_bipush dX0_init_13 (by decide) (by decide) ?_
  show Ev _ _ _ _ 15 21 _ _ [(2, 19)] [(0, (12 : Int)), (2, (19 : Int))]
  refine ev_newi (N := 12) dX0_init_15 wyint sp21 (by decide) (by decide) ?_
  show Ev _ _ _ _ 17 22 _ _ [(2, 19)] [(2, (21 : Int)), (2, (19 : Int))]
  refine ev_putrF (j := 1) dX0_init_17 cf_X0 wf_X0_15 sp19 (by decide) (by decide) rfl rfl rfl rfl (fun z => absurd z (by decide +kernel)) ?_
  show Ev _ _ _ _ 20 22 _ _ [(2, 19)] []
  refine ev_aload_n dX0_init_20 rfl (by decide) ?_
  show Ev _ _ _ _ 21 22 _ _ [(2, 19)] [(2, (19 : Int))]
  refine ev_bipush dX0_init_21 (by decide) (by decide) ?_
  show Ev _ _ _ _ 23 22 _ _ [(2, 19)] [(0, (12 : Int)), (2, (19 : Int))]
  refine ev_newi (N := 12) dX0_init_23 wyint sp22 (by decide) (by decide) ?_
  show Ev _ _ _ _ 25 23 _ _ [(2, 19)] [(2, (22 : Int)), (2, (19 : Int))]
  refine ev_putrF (j := 2) dX0_init_25 cf_X0 wf_X0_18 sp19 (by decide) (by decide) rfl rfl rfl rfl (fun z => absurd z (by decide +kernel)) ?_
  show Ev _ _ _ _ 28 23 _ _ [(2, 19)] []
  refine ev_aload_n dX0_init_28 rfl (by decide) ?_
  show Ev _ _ _ _ 29 23 _ _ [(2, 19)] [(2, (19 : Int))]
  refine ev_bipush dX0_init_29 (by decide) (by decide) ?_
  show Ev _ _ _ _ 31 23 _ _ [(2, 19)] [(0, (10 : Int)), (2, (19 : Int))]
  refine ev_newi (N := 10) dX0_init_31 wyint sp23 (by decide) (by decide) ?_
  show Ev _ _ _ _ 33 24 _ _ [(2, 19)] [(2, (23 : Int)), (2, (19 : Int))]
  refine ev_putrF (j := 3) dX0_init_33 cf_X0 wf_X0_21 sp19 (by decide) (by decide) rfl rfl rfl rfl (fun z => absurd z (by decide +kernel)) ?_
  show Ev _ _ _ _ 36 24 _ _ [(2, 19)] []
  refine ev_aload_n dX0_init_36 rfl (by decide) ?_
  show Ev _ _ _ _ 37 24 _ _ [(2, 19)] [(2, (19 : Int))]
  refine ev_bipush dX0_init_37 (by decide) (by decide) ?_
  show Ev _ _ _ _ 39 24 _ _ [(2, 19)] [(0, (10 : Int)), (2, (19 : Int))]
  refine ev_newi (N := 10) dX0_init_39 wyint sp24 (by decide) (by decide) ?_
  show Ev _ _ _ _ 41 25 _ _ [(2, 19)] [(2, (24 : Int)), (2, (19 : Int))]
  refine ev_putrF (j := 4) dX0_init_41 cf_X0 wf_X0_24 sp19 (by decide) (by decide) rfl rfl rfl rfl (fun z => absurd z (by decide +kernel)) ?_
  show Ev _ _ _ _ 44 25 _ _ [(2, 19)] []
  refine ev_aload_n dX0_init_44 rfl (by decide) ?_
  show Ev _ _ _ _ 45 25 _ _ [(2, 19)] [(2, (19 : Int))]
  refine ev_bipush dX0_init_45 (by decide) (by decide) ?_
  show Ev _ _ _ _ 47 25 _ _ [(2, 19)] [(0, (10 : Int)), (2, (19 : Int))]
  refine ev_newi (N := 10) dX0_init_47 wyint sp25 (by decide) (by decide) ?_
  show Ev _ _ _ _ 49 26 _ _ [(2, 19)] [(2, (25 : Int)), (2, (19 : Int))]
  refine ev_putrF (j := 5) dX0_init_49 cf_X0 wf_X0_27 sp19 (by decide) (by decide) rfl rfl rfl rfl (fun z => absurd z (by decide +kernel)) ?_
  show Ev _ _ _ _ 52 26 _ _ [(2, 19)] []
  refine ev_aload_n dX0_init_52 rfl (by decide) ?_
  show Ev _ _ _ _ 53 26 _ _ [(2, 19)] [(2, (19 : Int))]
  refine ev_bipush dX0_init_53 (by decide) (by decide) ?_
  show Ev _ _ _ _ 55 26 _ _ [(2, 19)] [(0, (10 : Int)), (2, (19 : Int))]
  refine ev_newi (N := 10) dX0_init_55 wyint sp26 (by decide) (by decide) ?_
  show Ev _ _ _ _ 57 27 _ _ [(2, 19)] [(2, (26 : Int)), (2, (19 : Int))]
  refine ev_putrF (j := 6) dX0_init_57 cf_X0 wf_X0_30 sp19 (by decide) (by decide) rfl rfl rfl rfl (fun z => absurd z (by decide +kernel)) ?_
  show Ev _ _ _ _ 60 27 _ _ [(2, 19)] []
  refine ev_aload_n dX0_init_60 rfl (by decide) ?_
  show Ev _ _ _ _ 61 27 _ _ [(2, 19)] [(2, (19 : Int))]
  refine ev_bipush dX0_init_61 (by decide) (by decide) ?_
  show Ev _ _ _ _ 63 27 _ _ [(2, 19)] [(0, (6 : Int)), (2, (19 : Int))]
  refine ev_newi (N := 6) dX0_init_63 wyint sp27 (by decide) (by decide) ?_
  show Ev _ _ _ _ 65 28 _ _ [(2, 19)] [(2, (27 : Int)), (2, (19 : Int))]
  refine ev_putrF (j := 7) dX0_init_65 cf_X0 wf_X0_33 sp19 (by decide) (by decide) rfl rfl rfl rfl (fun z => absurd z (by decide +kernel)) ?_
  show Ev _ _ _ _ 68 28 _ _ [(2, 19)] []
  refine ev_aload_n dX0_init_68 rfl (by decide) ?_
  show Ev _ _ _ _ 69 28 _ _ [(2, 19)] [(2, (19 : Int))]
  refine ev_bipush dX0_init_69 (by decide) (by decide) ?_
  show Ev _ _ _ _ 71 28 _ _ [(2, 19)] [(0, (24 : Int)), (2, (19 : Int))]
  refine ev_putf (j := 11) (t := 0) dX0_init_71 cf_X0 wf_X0_36 sp19 (by decide) (by decide) rfl (by decide) (by decide) rfl (fun z => absurd z (by decide +kernel)) ?_
  show Ev _ _ _ _ 74 28 _ _ [(2, 19)] []
  refine ev_aload_n dX0_init_74 rfl (by decide) ?_
  show Ev _ _ _ _ 75 28 _ _ [(2, 19)] [(2, (19 : Int))]
  refine ev_iconst dX0_init_75 (by decide) ?_
  show Ev _ _ _ _ 76 28 _ _ [(2, 19)] [(0, (1 : Int)), (2, (19 : Int))]
  refine ev_putf (j := 12) (t := 0) dX0_init_76 cf_X0 wf_X0_40 sp19 (by decide) (by decide) rfl (by decide) (by decide) rfl (fun z => absurd z (by decide +kernel)) ?_
  show Ev _ _ _ _ 79 28 _ _ [(2, 19)] []
  refine ev_aload_n dX0_init_79 rfl (by decide) ?_
  show Ev _ _ _ _ 80 28 _ _ [(2, 19)] [(2, (19 : Int))]
  refine ev_iconst dX0_init_80 (by decide) ?_
  show Ev _ _ _ _ 81 28 _ _ [(2, 19)] [(0, (1 : Int)), (2, (19 : Int))]
  refine ev_putf (j := 13) (t := 0) dX0_init_81 cf_X0 wf_X0_43 sp19 (by decide) (by decide) rfl (by decide) (by decide) rfl (fun z => absurd z (by decide +kernel)) ?_
  show Ev _ _ _ _ 84 28 _ _ [(2, 19)] []
  exact ev_vret dX0_init_84 rfl rfl
def rc_X7_init_29 (ρ : Mem) : Mem := (mup ρ 28 0 29)
def sc_X7_init_29 (σ : Mem) : Mem := σ
set_option maxHeartbeats 4000000 in
set_option maxRecDepth 20000 in
theorem c_X7_init_29 (ρ σ : Mem) : Ms yX7_init M_X7_init 29 30 [(2, 28)] ρ σ (none, rc_X7_init_29 ρ, sc_X7_init_29 σ) := by
  refine Ms.of 0 (by decide +kernel) rfl (fun _ => rfl) (fun _ _ _ => trivial) rfl rfl ?_
  show Ev M_X7_init 29 30 _ 0 29 ρ σ [(2, 28)] []
  show Ev _ _ _ _ 0 29 _ _ [(2, 28)] []
  refine ev_aload_n dX7_init_0 rfl (by decide) ?_
  show Ev _ _ _ _ 1 29 _ _ [(2, 28)] [(2, (28 : Int))]
  refine ev_oinit dX7_init_1 wo_X7_3 wo_i wo_c (by decide) (by decide) (by decide) ?_
  show Ev _ _ _ _ 4 29 _ _ [(2, 28)] []
  refine ev_aload_n dX7_init_4 rfl (by decide) ?_
  show Ev _ _ _ _ 5 29 _ _ [(2, 28)] [(2, (28 : Int))]
  refine ev_sipush dX7_init_5 (by decide) (by decide) ?_
  show Ev _ _ _ _ 8 29 _ _ [(2, 28)] [(0, (250 : Int)), (2, (28 : Int))]
  refine ev_newi (N := 250) dX7_init_8 wyint sp29 (by decide) (by decide) ?_
  show Ev _ _ _ _ 10 30 _ _ [(2, 28)] [(2, (29 : Int)), (2, (28 : Int))]
  refine ev_putrF (j := 0) dX7_init_10 cf_X7 wf_X7_11 sp28 (by decide) (by decide) rfl rfl rfl rfl (fun z => absurd z (by decide +kernel)) ?_
  show Ev _ _ _ _ 13 30 _ _ [(2, 28)] []
  exact ev_vret dX7_init_13 rfl rfl
def rc_X6_init_31 (ρ : Mem) : Mem := (mup (mup (mup ρ 30 0 31) 30 1 32) 30 2 33)
def sc_X6_init_31 (σ : Mem) : Mem := (mup (mup (mup (mup (mup (mup (mup (mup σ 31 0 (-1)) 31 1 (-1)) 31 2 (-1)) 31 3 (-1)) 31 4 (-1)) 31 5 (-1)) 31 6 (-1)) 31 7 (-1))
set_option maxHeartbeats 4000000 in
set_option maxRecDepth 20000 in
theorem c_X6_init_31 (ρ σ : Mem) : Ms yX6_init M_X6_init 31 34 [(2, 30)] ρ σ (none, rc_X6_init_31 ρ, sc_X6_init_31 σ) := by
  refine Ms.of 0 (by decide +kernel) rfl (fun _ => rfl) (fun _ _ _ => trivial) rfl rfl ?_
  show Ev M_X6_init 31 34 _ 0 31 ρ σ [(2, 30)] []
  show Ev _ _ _ _ 0 31 _ _ [(2, 30)] []
  refine ev_aload_n dX6_init_0 rfl (by decide) ?_
  show Ev _ _ _ _ 1 31 _ _ [(2, 30)] [(2, (30 : Int))]
  refine ev_oinit dX6_init_1 wo_X6_3 wo_i wo_c (by decide) (by decide) (by decide) ?_
  show Ev _ _ _ _ 4 31 _ _ [(2, 30)] []
  refine ev_aload_n dX6_init_4 rfl (by decide) ?_
  show Ev _ _ _ _ 5 31 _ _ [(2, 30)] [(2, (30 : Int))]
  refine ev_bipush dX6_init_5 (by decide) (by decide) ?_
  show Ev _ _ _ _ 7 31 _ _ [(2, 30)] [(0, (8 : Int)), (2, (30 : Int))]
  refine ev_newi (N := 8) dX6_init_7 wyint sp31 (by decide) (by decide) ?_
  show Ev _ _ _ _ 9 32 _ _ [(2, 30)] [(2, (31 : Int)), (2, (30 : Int))]
  refine ev_dup dX6_init_9 (show (2 : Nat) ≠ 1 by decide) ?_
  show Ev _ _ _ _ 10 32 _ _ [(2, 30)] [(2, (31 : Int)), (2, (31 : Int)), (2, (30 : Int))]
  refine ev_iconst dX6_init_10 (by decide) ?_
  show Ev _ _ _ _ 11 32 _ _ [(2, 30)] [(0, (0 : Int)), (2, (31 : Int)), (2, (31 : Int)), (2, (30 : Int))]
  refine ev_iconst dX6_init_11 (by decide) ?_
  show Ev _ _ _ _ 12 32 _ _ [(2, 30)] [(0, (-1 : Int)), (0, (0 : Int)), (2, (31 : Int)), (2, (31 : Int)), (2, (30 : Int))]
  refine ev_iast (X := some ()) (q := ()) dX6_init_12 sp31 (by decide) (by decide) (chk_pos ⟨by decide, by decide⟩) (fun _ => ?_)
  show Ev _ _ _ _ 13 32 _ _ [(2, 30)] [(2, (31 : Int)), (2, (30 : Int))]
  refine ev_dup dX6_init_13 (show (2 : Nat) ≠ 1 by decide) ?_
  show Ev _ _ _ _ 14 32 _ _ [(2, 30)] [(2, (31 : Int)), (2, (31 : Int)), (2, (30 : Int))]
  refine ev_iconst dX6_init_14 (by decide) ?_
  show Ev _ _ _ _ 15 32 _ _ [(2, 30)] [(0, (1 : Int)), (2, (31 : Int)), (2, (31 : Int)), (2, (30 : Int))]
  refine ev_iconst dX6_init_15 (by decide) ?_
  show Ev _ _ _ _ 16 32 _ _ [(2, 30)] [(0, (-1 : Int)), (0, (1 : Int)), (2, (31 : Int)), (2, (31 : Int)), (2, (30 : Int))]
  refine ev_iast (X := some ()) (q := ()) dX6_init_16 sp31 (by decide) (by decide) (chk_pos ⟨by decide, by decide⟩) (fun _ => ?_)
  show Ev _ _ _ _ 17 32 _ _ [(2, 30)] [(2, (31 : Int)), (2, (30 : Int))]
  refine ev_dup dX6_init_17 (show (2 : Nat) ≠ 1 by decide) ?_
  show Ev _ _ _ _ 18 32 _ _ [(2, 30)] [(2, (31 : Int)), (2, (31 : Int)), (2, (30 : Int))]
  refine ev_iconst dX6_init_18 (by decide) ?_
  show Ev _ _ _ _ 19 32 _ _ [(2, 30)] [(0, (2 : Int)), (2, (31 : Int)), (2, (31 : Int)), (2, (30 : Int))]
  refine ev_iconst dX6_init_19 (by decide) ?_
  show Ev _ _ _ _ 20 32 _ _ [(2, 30)] [(0, (-1 : Int)), (0, (2 : Int)), (2, (31 : Int)), (2, (31 : Int)), (2, (30 : Int))]
  refine ev_iast (X := some ()) (q := ()) dX6_init_20 sp31 (by decide) (by decide) (chk_pos ⟨by decide, by decide⟩) (fun _ => ?_)
  show Ev _ _ _ _ 21 32 _ _ [(2, 30)] [(2, (31 : Int)), (2, (30 : Int))]
  refine ev_dup dX6_init_21 (show (2 : Nat) ≠ 1 by decide) ?_
  show Ev _ _ _ _ 22 32 _ _ [(2, 30)] [(2, (31 : Int)), (2, (31 : Int)), (2, (30 : Int))]
  refine ev_iconst dX6_init_22 (by decide) ?_
  show Ev _ _ _ _ 23 32 _ _ [(2, 30)] [(0, (3 : Int)), (2, (31 : Int)), (2, (31 : Int)), (2, (30 : Int))]
  refine ev_iconst dX6_init_23 (by decide) ?_
  show Ev _ _ _ _ 24 32 _ _ [(2, 30)] [(0, (-1 : Int)), (0, (3 : Int)), (2, (31 : Int)), (2, (31 : Int)), (2, (30 : Int))]
  refine ev_iast (X := some ()) (q := ()) dX6_init_24 sp31 (by decide) (by decide) (chk_pos ⟨by decide, by decide⟩) (fun _ => ?_)
  show Ev _ _ _ _ 25 32 _ _ [(2, 30)] [(2, (31 : Int)), (2, (30 : Int))]
  refine ev_dup dX6_init_25 (show (2 : Nat) ≠ 1 by decide) ?_
  show Ev _ _ _ _ 26 32 _ _ [(2, 30)] [(2, (31 : Int)), (2, (31 : Int)), (2, (30 : Int))]
  refine ev_iconst dX6_init_26 (by decide) ?_
  show Ev _ _ _ _ 27 32 _ _ [(2, 30)] [(0, (4 : Int)), (2, (31 : Int)), (2, (31 : Int)), (2, (30 : Int))]
  refine ev_iconst dX6_init_27 (by decide) ?_
  show Ev _ _ _ _ 28 32 _ _ [(2, 30)] [(0, (-1 : Int)), (0, (4 : Int)), (2, (31 : Int)), (2, (31 : Int)), (2, (30 : Int))]
  refine ev_iast (X := some ()) (q := ()) dX6_init_28 sp31 (by decide) (by decide) (chk_pos ⟨by decide, by decide⟩) (fun _ => ?_)
  show Ev _ _ _ _ 29 32 _ _ [(2, 30)] [(2, (31 : Int)), (2, (30 : Int))]
  refine ev_dup dX6_init_29 (show (2 : Nat) ≠ 1 by decide) ?_
  show Ev _ _ _ _ 30 32 _ _ [(2, 30)] [(2, (31 : Int)), (2, (31 : Int)), (2, (30 : Int))]
  refine ev_iconst dX6_init_30 (by decide) ?_
  show Ev _ _ _ _ 31 32 _ _ [(2, 30)] [(0, (5 : Int)), (2, (31 : Int)), (2, (31 : Int)), (2, (30 : Int))]
  refine ev_iconst dX6_init_31 (by decide) ?_
  show Ev _ _ _ _ 32 32 _ _ [(2, 30)] [(0, (-1 : Int)), (0, (5 : Int)), (2, (31 : Int)), (2, (31 : Int)), (2, (30 : Int))]
  refine ev_iast (X := some ()) (q := ()) dX6_init_32 sp31 (by decide) (by decide) (chk_pos ⟨by decide, by decide⟩) (fun _ => ?_)
  show Ev _ _ _ _ 33 32 _ _ [(2, 30)] [(2, (31 : Int)), (2, (30 : Int))]
  refine ev_dup dX6_init_33 (show (2 : Nat) ≠ 1 by decide) ?_
  show Ev _ _ _ _ 34 32 _ _ [(2, 30)] [(2, (31 : Int)), (2, (31 : Int)), (2, (30 : Int))]
  refine ev_bipush dX6_init_34 (by decide) (by decide) ?_
  show Ev _ _ _ _ 36 32 _ _ [(2, 30)] [(0, (6 : Int)), (2, (31 : Int)), (2, (31 : Int)), (2, (30 : Int))]
  refine ev_iconst dX6_init_36 (by decide) ?_
  show Ev _ _ _ _ 37 32 _ _ [(2, 30)] [(0, (-1 : Int)), (0, (6 : Int)), (2, (31 : Int)), (2, (31 : Int)), (2, (30 : Int))]
  refine ev_iast (X := some ()) (q := ()) dX6_init_37 sp31 (by decide) (by decide) (chk_pos ⟨by decide, by decide⟩) (fun _ => ?_)
  show Ev _ _ _ _ 38 32 _ _ [(2, 30)] [(2, (31 : Int)), (2, (30 : Int))]
  refine ev_dup dX6_init_38 (show (2 : Nat) ≠ 1 by decide) ?_
  show Ev _ _ _ _ 39 32 _ _ [(2, 30)] [(2, (31 : Int)), (2, (31 : Int)), (2, (30 : Int))]
  refine ev_bipush dX6_init_39 (by decide) (by decide) ?_
  show Ev _ _ _ _ 41 32 _ _ [(2, 30)] [(0, (7 : Int)), (2, (31 : Int)), (2, (31 : Int)), (2, (30 : Int))]
  refine ev_iconst dX6_init_41 (by decide) ?_
  show Ev _ _ _ _ 42 32 _ _ [(2, 30)] [(0, (-1 : Int)), (0, (7 : Int)), (2, (31 : Int)), (2, (31 : Int)), (2, (30 : Int))]
  refine ev_iast (X := some ()) (q := ()) dX6_init_42 sp31 (by decide) (by decide) (chk_pos ⟨by decide, by decide⟩) (fun _ => ?_)
  show Ev _ _ _ _ 43 32 _ _ [(2, 30)] [(2, (31 : Int)), (2, (30 : Int))]
  refine ev_putrF (j := 0) dX6_init_43 cf_X6 wf_X6_9 sp30 (by decide) (by decide) rfl rfl rfl rfl (fun z => absurd z (by decide +kernel)) ?_
  show Ev _ _ _ _ 46 32 _ _ [(2, 30)] []
  refine ev_aload_n dX6_init_46 rfl (by decide) ?_
  show Ev _ _ _ _ 47 32 _ _ [(2, 30)] [(2, (30 : Int))]
  refine ev_bipush dX6_init_47 (by decide) (by decide) ?_
  show Ev _ _ _ _ 49 32 _ _ [(2, 30)] [(0, (8 : Int)), (2, (30 : Int))]
  refine ev_newi (N := 8) dX6_init_49 wyint sp32 (by decide) (by decide) ?_
  show Ev _ _ _ _ 51 33 _ _ [(2, 30)] [(2, (32 : Int)), (2, (30 : Int))]
  refine ev_putrF (j := 1) dX6_init_51 cf_X6 wf_X6_15 sp30 (by decide) (by decide) rfl rfl rfl rfl (fun z => absurd z (by decide +kernel)) ?_
  show Ev _ _ _ _ 54 33 _ _ [(2, 30)] []
  refine ev_aload_n dX6_init_54 rfl (by decide) ?_
  show Ev _ _ _ _ 55 33 _ _ [(2, 30)] [(2, (30 : Int))]
  refine ev_sipush dX6_init_55 (by decide) (by decide) ?_
  show Ev _ _ _ _ 58 33 _ _ [(2, 30)] [(0, (320 : Int)), (2, (30 : Int))]
  refine ev_newl (N := 320) dX6_init_58 wylong sp33 (by decide) (by decide) ?_
  show Ev _ _ _ _ 60 34 _ _ [(2, 30)] [(2, (33 : Int)), (2, (30 : Int))]
  refine ev_putrF (j := 2) dX6_init_60 cf_X6 wf_X6_18 sp30 (by decide) (by decide) rfl rfl rfl rfl (fun z => absurd z (by decide +kernel)) ?_
  show Ev _ _ _ _ 63 34 _ _ [(2, 30)] []
  exact ev_vret dX6_init_63 rfl rfl
def rc_X3_init_37 (ρ : Mem) : Mem := (mup (mup (mup (mup (mup (mup ρ 36 0 37) 36 1 38) 36 2 39) 36 3 40) 36 4 41) 36 5 42)
def sc_X3_init_37 (σ : Mem) : Mem := σ
set_option maxHeartbeats 4000000 in
set_option maxRecDepth 20000 in
theorem c_X3_init_37 (ρ σ : Mem) : Ms yX3_init M_X3_init 37 43 [(2, 36)] ρ σ (none, rc_X3_init_37 ρ, sc_X3_init_37 σ) := by
  refine Ms.of 0 (by decide +kernel) rfl (fun _ => rfl) (fun _ _ _ => trivial) rfl rfl ?_
  show Ev M_X3_init 37 43 _ 0 37 ρ σ [(2, 36)] []
  show Ev _ _ _ _ 0 37 _ _ [(2, 36)] []
  refine ev_aload_n dX3_init_0 rfl (by decide) ?_
  show Ev _ _ _ _ 1 37 _ _ [(2, 36)] [(2, (36 : Int))]
  refine ev_oinit dX3_init_1 wo_X3_3 wo_i wo_c (by decide) (by decide) (by decide) ?_
  show Ev _ _ _ _ 4 37 _ _ [(2, 36)] []
  refine ev_aload_n dX3_init_4 rfl (by decide) ?_
  show Ev _ _ _ _ 5 37 _ _ [(2, 36)] [(2, (36 : Int))]
  refine ev_iconst dX3_init_5 (by decide) ?_
  show Ev _ _ _ _ 6 37 _ _ [(2, 36)] [(0, (4 : Int)), (2, (36 : Int))]
  refine ev_newi (N := 4) dX3_init_6 wyint sp37 (by decide) (by decide) ?_
  show Ev _ _ _ _ 8 38 _ _ [(2, 36)] [(2, (37 : Int)), (2, (36 : Int))]
  refine ev_putrF (j := 0) dX3_init_8 cf_X3 wf_X3_9 sp36 (by decide) (by decide) rfl rfl rfl rfl (fun z => absurd z (by decide +kernel)) ?_
  show Ev _ _ _ _ 11 38 _ _ [(2, 36)] []
  refine ev_aload_n dX3_init_11 rfl (by decide) ?_
  show Ev _ _ _ _ 12 38 _ _ [(2, 36)] [(2, (36 : Int))]
  refine ev_iconst dX3_init_12 (by decide) ?_
  show Ev _ _ _ _ 13 38 _ _ [(2, 36)] [(0, (4 : Int)), (2, (36 : Int))]
  refine ev_newi (N := 4) dX3_init_13 wyint sp38 (by decide) (by decide) ?_
  show Ev _ _ _ _ 15 39 _ _ [(2, 36)] [(2, (38 : Int)), (2, (36 : Int))]
  refine ev_putrF (j := 1) dX3_init_15 cf_X3 wf_X3_15 sp36 (by decide) (by decide) rfl rfl rfl rfl (fun z => absurd z (by decide +kernel)) ?_
  show Ev _ _ _ _ 18 39 _ _ [(2, 36)] []
  refine ev_aload_n dX3_init_18 rfl (by decide) ?_
  show Ev _ _ _ _ 19 39 _ _ [(2, 36)] [(2, (36 : Int))]
  refine ev_iconst dX3_init_19 (by decide) ?_
  show Ev _ _ _ _ 20 39 _ _ [(2, 36)] [(0, (4 : Int)), (2, (36 : Int))]
  refine ev_newi (N := 4) dX3_init_20 wyint sp39 (by decide) (by decide) ?_
  show Ev _ _ _ _ 22 40 _ _ [(2, 36)] [(2, (39 : Int)), (2, (36 : Int))]
  refine ev_putrF (j := 2) dX3_init_22 cf_X3 wf_X3_18 sp36 (by decide) (by decide) rfl rfl rfl rfl (fun z => absurd z (by decide +kernel)) ?_
  show Ev _ _ _ _ 25 40 _ _ [(2, 36)] []
  refine ev_aload_n dX3_init_25 rfl (by decide) ?_
  show Ev _ _ _ _ 26 40 _ _ [(2, 36)] [(2, (36 : Int))]
  refine ev_iconst dX3_init_26 (by decide) ?_
  show Ev _ _ _ _ 27 40 _ _ [(2, 36)] [(0, (4 : Int)), (2, (36 : Int))]
  refine ev_newi (N := 4) dX3_init_27 wyint sp40 (by decide) (by decide) ?_
  show Ev _ _ _ _ 29 41 _ _ [(2, 36)] [(2, (40 : Int)), (2, (36 : Int))]
  refine ev_putrF (j := 3) dX3_init_29 cf_X3 wf_X3_21 sp36 (by decide) (by decide) rfl rfl rfl rfl (fun z => absurd z (by decide +kernel)) ?_
  show Ev _ _ _ _ 32 41 _ _ [(2, 36)] []
  refine ev_aload_n dX3_init_32 rfl (by decide) ?_
  show Ev _ _ _ _ 33 41 _ _ [(2, 36)] [(2, (36 : Int))]
  refine ev_iconst dX3_init_33 (by decide) ?_
  show Ev _ _ _ _ 34 41 _ _ [(2, 36)] [(0, (4 : Int)), (2, (36 : Int))]
  refine ev_newi (N := 4) dX3_init_34 wyint sp41 (by decide) (by decide) ?_
  show Ev _ _ _ _ 36 42 _ _ [(2, 36)] [(2, (41 : Int)), (2, (36 : Int))]
  refine ev_putrF (j := 4) dX3_init_36 cf_X3 wf_X3_24 sp36 (by decide) (by decide) rfl rfl rfl rfl (fun z => absurd z (by decide +kernel)) ?_
  show Ev _ _ _ _ 39 42 _ _ [(2, 36)] []
  refine ev_aload_n dX3_init_39 rfl (by decide) ?_
  show Ev _ _ _ _ 40 42 _ _ [(2, 36)] [(2, (36 : Int))]
  refine ev_iconst dX3_init_40 (by decide) ?_
  show Ev _ _ _ _ 41 42 _ _ [(2, 36)] [(0, (4 : Int)), (2, (36 : Int))]
  refine ev_newi (N := 4) dX3_init_41 wyint sp42 (by decide) (by decide) ?_
  show Ev _ _ _ _ 43 43 _ _ [(2, 36)] [(2, (42 : Int)), (2, (36 : Int))]
  refine ev_putrF (j := 5) dX3_init_43 cf_X3 wf_X3_27 sp36 (by decide) (by decide) rfl rfl rfl rfl (fun z => absurd z (by decide +kernel)) ?_
  show Ev _ _ _ _ 46 43 _ _ [(2, 36)] []
  exact ev_vret dX3_init_46 rfl rfl
def rc_X4_init_36 (ρ : Mem) : Mem := (mup (rc_X3_init_37 ρ) 35 0 36)
def sc_X4_init_36 (σ : Mem) : Mem := (sc_X3_init_37 σ)
set_option maxHeartbeats 4000000 in
set_option maxRecDepth 20000 in
theorem c_X4_init_36 (ρ σ : Mem) : Ms yX4_init M_X4_init 36 43 [(2, 35)] ρ σ (none, rc_X4_init_36 ρ, sc_X4_init_36 σ) := by
  refine Ms.of 0 (by decide +kernel) rfl (fun _ => rfl) (fun _ _ _ => trivial) rfl rfl ?_
  show Ev M_X4_init 36 43 _ 0 36 ρ σ [(2, 35)] []
  show Ev _ _ _ _ 0 36 _ _ [(2, 35)] []
  refine ev_aload_n dX4_init_0 rfl (by decide) ?_
  show Ev _ _ _ _ 1 36 _ _ [(2, 35)] [(2, (35 : Int))]
  refine ev_oinit dX4_init_1 wo_X4_3 wo_i wo_c (by decide) (by decide) (by decide) ?_
  show Ev _ _ _ _ 4 36 _ _ [(2, 35)] []
  refine ev_aload_n dX4_init_4 rfl (by decide) ?_
  show Ev _ _ _ _ 5 36 _ _ [(2, 35)] [(2, (35 : Int))]
  refine ev_new dX4_init_5 cf_X3 wk_X4_9 wi_X3 wz_X3 sp36 (by decide) ?_
  show Ev _ _ _ _ 8 37 _ _ [(2, 35)] [(2, (36 : Int)), (2, (35 : Int))]
  refine ev_dup dX4_init_8 (show (2 : Nat) ≠ 1 by decide) ?_
  show Ev _ _ _ _ 9 37 _ _ [(2, 35)] [(2, (36 : Int)), (2, (36 : Int)), (2, (35 : Int))]
  refine ev_invIN (k := 36) (av := []) (st := [(2, (36 : Int)), (2, (35 : Int))]) dX4_init_9 ml_X4_11 mi_X3_init rfl (by decide) rfl rfl ⟨Nat.le_of_ble_eq_true rfl, Nat.le_of_ble_eq_true rfl⟩ (Nat.le_of_ble_eq_true rfl) (c_X3_init_37 _ _) ⟨by decide, by decide⟩ ?_
  show Ev _ _ _ _ 12 43 (rc_X3_init_37 _) (sc_X3_init_37 _) _ _
  show Ev _ _ _ _ 12 43 _ _ [(2, 35)] [(2, (36 : Int)), (2, (35 : Int))]
  refine ev_putrF (j := 0) dX4_init_12 cf_X4 wf_X4_12 sp35 (by decide) (by decide) rfl rfl rfl rfl (fun z => absurd z (by decide +kernel)) ?_
  show Ev _ _ _ _ 15 43 _ _ [(2, 35)] []
  exact ev_vret dX4_init_15 rfl rfl
def rc_X8_init_47 (ρ : Mem) : Mem := (mup (mup (mup (mup (mup (mup (mup (mup (mup ρ 46 0 47) 46 1 48) 46 2 49) 46 3 50) 46 4 51) 46 5 52) 46 6 53) 46 7 54) 46 8 55)
def sc_X8_init_47 (σ : Mem) : Mem := σ
set_option maxHeartbeats 4000000 in
set_option maxRecDepth 20000 in
theorem c_X8_init_47 (ρ σ : Mem) : Ms yX8_init M_X8_init 47 56 [(2, 46)] ρ σ (none, rc_X8_init_47 ρ, sc_X8_init_47 σ) := by
  refine Ms.of 0 (by decide +kernel) rfl (fun _ => rfl) (fun _ _ _ => trivial) rfl rfl ?_
  show Ev M_X8_init 47 56 _ 0 47 ρ σ [(2, 46)] []
  show Ev _ _ _ _ 0 47 _ _ [(2, 46)] []
  refine ev_aload_n dX8_init_0 rfl (by decide) ?_
  show Ev _ _ _ _ 1 47 _ _ [(2, 46)] [(2, (46 : Int))]
  refine ev_oinit dX8_init_1 wo_X8_3 wo_i wo_c (by decide) (by decide) (by decide) ?_
  show Ev _ _ _ _ 4 47 _ _ [(2, 46)] []
  refine ev_aload_n dX8_init_4 rfl (by decide) ?_
  show Ev _ _ _ _ 5 47 _ _ [(2, 46)] [(2, (46 : Int))]
  refine ev_iconst dX8_init_5 (by decide) ?_
  show Ev _ _ _ _ 6 47 _ _ [(2, 46)] [(0, (5 : Int)), (2, (46 : Int))]
  refine ev_newz (N := 5) dX8_init_6 wyboolean sp47 (by decide) (by decide) ?_
  show Ev _ _ _ _ 8 48 _ _ [(2, 46)] [(2, (47 : Int)), (2, (46 : Int))]
  refine ev_putrF (j := 0) dX8_init_8 cf_X8 wf_X8_9 sp46 (by decide) (by decide) rfl rfl rfl rfl (fun z => absurd z (by decide +kernel)) ?_
  show Ev _ _ _ _ 11 48 _ _ [(2, 46)] []
  refine ev_aload_n dX8_init_11 rfl (by decide) ?_
  show Ev _ _ _ _ 12 48 _ _ [(2, 46)] [(2, (46 : Int))]
  refine ev_iconst dX8_init_12 (by decide) ?_
  show Ev _ _ _ _ 13 48 _ _ [(2, 46)] [(0, (5 : Int)), (2, (46 : Int))]
  refine ev_newi (N := 5) dX8_init_13 wyint sp48 (by decide) (by decide) ?_
  show Ev _ _ _ _ 15 49 _ _ [(2, 46)] [(2, (48 : Int)), (2, (46 : Int))]
  refine ev_putrF (j := 1) dX8_init_15 cf_X8 wf_X8_15 sp46 (by decide) (by decide) rfl rfl rfl rfl (fun z => absurd z (by decide +kernel)) ?_
  show Ev _ _ _ _ 18 49 _ _ [(2, 46)] []
  refine ev_aload_n dX8_init_18 rfl (by decide) ?_
  show Ev _ _ _ _ 19 49 _ _ [(2, 46)] [(2, (46 : Int))]
  refine ev_iconst dX8_init_19 (by decide) ?_
  show Ev _ _ _ _ 20 49 _ _ [(2, 46)] [(0, (5 : Int)), (2, (46 : Int))]
  refine ev_newi (N := 5) dX8_init_20 wyint sp49 (by decide) (by decide) ?_
  show Ev _ _ _ _ 22 50 _ _ [(2, 46)] [(2, (49 : Int)), (2, (46 : Int))]
  refine ev_putrF (j := 2) dX8_init_22 cf_X8 wf_X8_19 sp46 (by decide) (by decide) rfl rfl rfl rfl (fun z => absurd z (by decide +kernel)) ?_
  show Ev _ _ _ _ 25 50 _ _ [(2, 46)] []
  refine ev_aload_n dX8_init_25 rfl (by decide) ?_
  show Ev _ _ _ _ 26 50 _ _ [(2, 46)] [(2, (46 : Int))]
  refine ev_iconst dX8_init_26 (by decide) ?_
  show Ev _ _ _ _ 27 50 _ _ [(2, 46)] [(0, (5 : Int)), (2, (46 : Int))]
  refine ev_newi (N := 5) dX8_init_27 wyint sp50 (by decide) (by decide) ?_
  show Ev _ _ _ _ 29 51 _ _ [(2, 46)] [(2, (50 : Int)), (2, (46 : Int))]
  refine ev_putrF (j := 3) dX8_init_29 cf_X8 wf_X8_22 sp46 (by decide) (by decide) rfl rfl rfl rfl (fun z => absurd z (by decide +kernel)) ?_
  show Ev _ _ _ _ 32 51 _ _ [(2, 46)] []
  refine ev_aload_n dX8_init_32 rfl (by decide) ?_
  show Ev _ _ _ _ 33 51 _ _ [(2, 46)] [(2, (46 : Int))]
  refine ev_iconst dX8_init_33 (by decide) ?_
  show Ev _ _ _ _ 34 51 _ _ [(2, 46)] [(0, (5 : Int)), (2, (46 : Int))]
  refine ev_newi (N := 5) dX8_init_34 wyint sp51 (by decide) (by decide) ?_
  show Ev _ _ _ _ 36 52 _ _ [(2, 46)] [(2, (51 : Int)), (2, (46 : Int))]
  refine ev_putrF (j := 4) dX8_init_36 cf_X8 wf_X8_25 sp46 (by decide) (by decide) rfl rfl rfl rfl (fun z => absurd z (by decide +kernel)) ?_
  show Ev _ _ _ _ 39 52 _ _ [(2, 46)] []
  refine ev_aload_n dX8_init_39 rfl (by decide) ?_
  show Ev _ _ _ _ 40 52 _ _ [(2, 46)] [(2, (46 : Int))]
  refine ev_iconst dX8_init_40 (by decide) ?_
  show Ev _ _ _ _ 41 52 _ _ [(2, 46)] [(0, (5 : Int)), (2, (46 : Int))]
  refine ev_newl (N := 5) dX8_init_41 wylong sp52 (by decide) (by decide) ?_
  show Ev _ _ _ _ 43 53 _ _ [(2, 46)] [(2, (52 : Int)), (2, (46 : Int))]
  refine ev_putrF (j := 5) dX8_init_43 cf_X8 wf_X8_28 sp46 (by decide) (by decide) rfl rfl rfl rfl (fun z => absurd z (by decide +kernel)) ?_
  show Ev _ _ _ _ 46 53 _ _ [(2, 46)] []
  refine ev_aload_n dX8_init_46 rfl (by decide) ?_
  show Ev _ _ _ _ 47 53 _ _ [(2, 46)] [(2, (46 : Int))]
  refine ev_bipush dX8_init_47 (by decide) (by decide) ?_
  show Ev _ _ _ _ 49 53 _ _ [(2, 46)] [(0, (20 : Int)), (2, (46 : Int))]
  refine ev_newi (N := 20) dX8_init_49 wyint sp53 (by decide) (by decide) ?_
  show Ev _ _ _ _ 51 54 _ _ [(2, 46)] [(2, (53 : Int)), (2, (46 : Int))]
  refine ev_putrF (j := 6) dX8_init_51 cf_X8 wf_X8_32 sp46 (by decide) (by decide) rfl rfl rfl rfl (fun z => absurd z (by decide +kernel)) ?_
  show Ev _ _ _ _ 54 54 _ _ [(2, 46)] []
  refine ev_aload_n dX8_init_54 rfl (by decide) ?_
  show Ev _ _ _ _ 55 54 _ _ [(2, 46)] [(2, (46 : Int))]
  refine ev_bipush dX8_init_55 (by decide) (by decide) ?_
  show Ev _ _ _ _ 57 54 _ _ [(2, 46)] [(0, (20 : Int)), (2, (46 : Int))]
  refine ev_newi (N := 20) dX8_init_57 wyint sp54 (by decide) (by decide) ?_
  show Ev _ _ _ _ 59 55 _ _ [(2, 46)] [(2, (54 : Int)), (2, (46 : Int))]
  refine ev_putrF (j := 7) dX8_init_59 cf_X8 wf_X8_35 sp46 (by decide) (by decide) rfl rfl rfl rfl (fun z => absurd z (by decide +kernel)) ?_
  show Ev _ _ _ _ 62 55 _ _ [(2, 46)] []
  refine ev_aload_n dX8_init_62 rfl (by decide) ?_
  show Ev _ _ _ _ 63 55 _ _ [(2, 46)] [(2, (46 : Int))]
  refine ev_bipush dX8_init_63 (by decide) (by decide) ?_
  show Ev _ _ _ _ 65 55 _ _ [(2, 46)] [(0, (20 : Int)), (2, (46 : Int))]
  refine ev_newi (N := 20) dX8_init_65 wyint sp55 (by decide) (by decide) ?_
  show Ev _ _ _ _ 67 56 _ _ [(2, 46)] [(2, (55 : Int)), (2, (46 : Int))]
  refine ev_putrF (j := 8) dX8_init_67 cf_X8 wf_X8_38 sp46 (by decide) (by decide) rfl rfl rfl rfl (fun z => absurd z (by decide +kernel)) ?_
  show Ev _ _ _ _ 70 56 _ _ [(2, 46)] []
  exact ev_vret dX8_init_70 rfl rfl
def rc_X8_init_57 (ρ : Mem) : Mem := (mup (mup (mup (mup (mup (mup (mup (mup (mup ρ 56 0 57) 56 1 58) 56 2 59) 56 3 60) 56 4 61) 56 5 62) 56 6 63) 56 7 64) 56 8 65)
def sc_X8_init_57 (σ : Mem) : Mem := σ
set_option maxHeartbeats 4000000 in
set_option maxRecDepth 20000 in
theorem c_X8_init_57 (ρ σ : Mem) : Ms yX8_init M_X8_init 57 66 [(2, 56)] ρ σ (none, rc_X8_init_57 ρ, sc_X8_init_57 σ) := by
  refine Ms.of 0 (by decide +kernel) rfl (fun _ => rfl) (fun _ _ _ => trivial) rfl rfl ?_
  show Ev M_X8_init 57 66 _ 0 57 ρ σ [(2, 56)] []
  show Ev _ _ _ _ 0 57 _ _ [(2, 56)] []
  refine ev_aload_n dX8_init_0 rfl (by decide) ?_
  show Ev _ _ _ _ 1 57 _ _ [(2, 56)] [(2, (56 : Int))]
  refine ev_oinit dX8_init_1 wo_X8_3 wo_i wo_c (by decide) (by decide) (by decide) ?_
  show Ev _ _ _ _ 4 57 _ _ [(2, 56)] []
  refine ev_aload_n dX8_init_4 rfl (by decide) ?_
  show Ev _ _ _ _ 5 57 _ _ [(2, 56)] [(2, (56 : Int))]
  refine ev_iconst dX8_init_5 (by decide) ?_
  show Ev _ _ _ _ 6 57 _ _ [(2, 56)] [(0, (5 : Int)), (2, (56 : Int))]
  refine ev_newz (N := 5) dX8_init_6 wyboolean sp57 (by decide) (by decide) ?_
  show Ev _ _ _ _ 8 58 _ _ [(2, 56)] [(2, (57 : Int)), (2, (56 : Int))]
  refine ev_putrF (j := 0) dX8_init_8 cf_X8 wf_X8_9 sp56 (by decide) (by decide) rfl rfl rfl rfl (fun z => absurd z (by decide +kernel)) ?_
  show Ev _ _ _ _ 11 58 _ _ [(2, 56)] []
  refine ev_aload_n dX8_init_11 rfl (by decide) ?_
  show Ev _ _ _ _ 12 58 _ _ [(2, 56)] [(2, (56 : Int))]
  refine ev_iconst dX8_init_12 (by decide) ?_
  show Ev _ _ _ _ 13 58 _ _ [(2, 56)] [(0, (5 : Int)), (2, (56 : Int))]
  refine ev_newi (N := 5) dX8_init_13 wyint sp58 (by decide) (by decide) ?_
  show Ev _ _ _ _ 15 59 _ _ [(2, 56)] [(2, (58 : Int)), (2, (56 : Int))]
  refine ev_putrF (j := 1) dX8_init_15 cf_X8 wf_X8_15 sp56 (by decide) (by decide) rfl rfl rfl rfl (fun z => absurd z (by decide +kernel)) ?_
  show Ev _ _ _ _ 18 59 _ _ [(2, 56)] []
  refine ev_aload_n dX8_init_18 rfl (by decide) ?_
  show Ev _ _ _ _ 19 59 _ _ [(2, 56)] [(2, (56 : Int))]
  refine ev_iconst dX8_init_19 (by decide) ?_
  show Ev _ _ _ _ 20 59 _ _ [(2, 56)] [(0, (5 : Int)), (2, (56 : Int))]
  refine ev_newi (N := 5) dX8_init_20 wyint sp59 (by decide) (by decide) ?_
  show Ev _ _ _ _ 22 60 _ _ [(2, 56)] [(2, (59 : Int)), (2, (56 : Int))]
  refine ev_putrF (j := 2) dX8_init_22 cf_X8 wf_X8_19 sp56 (by decide) (by decide) rfl rfl rfl rfl (fun z => absurd z (by decide +kernel)) ?_
  show Ev _ _ _ _ 25 60 _ _ [(2, 56)] []
  refine ev_aload_n dX8_init_25 rfl (by decide) ?_
  show Ev _ _ _ _ 26 60 _ _ [(2, 56)] [(2, (56 : Int))]
  refine ev_iconst dX8_init_26 (by decide) ?_
  show Ev _ _ _ _ 27 60 _ _ [(2, 56)] [(0, (5 : Int)), (2, (56 : Int))]
  refine ev_newi (N := 5) dX8_init_27 wyint sp60 (by decide) (by decide) ?_
  show Ev _ _ _ _ 29 61 _ _ [(2, 56)] [(2, (60 : Int)), (2, (56 : Int))]
  refine ev_putrF (j := 3) dX8_init_29 cf_X8 wf_X8_22 sp56 (by decide) (by decide) rfl rfl rfl rfl (fun z => absurd z (by decide +kernel)) ?_
  show Ev _ _ _ _ 32 61 _ _ [(2, 56)] []
  refine ev_aload_n dX8_init_32 rfl (by decide) ?_
  show Ev _ _ _ _ 33 61 _ _ [(2, 56)] [(2, (56 : Int))]
  refine ev_iconst dX8_init_33 (by decide) ?_
  show Ev _ _ _ _ 34 61 _ _ [(2, 56)] [(0, (5 : Int)), (2, (56 : Int))]
  refine ev_newi (N := 5) dX8_init_34 wyint sp61 (by decide) (by decide) ?_
  show Ev _ _ _ _ 36 62 _ _ [(2, 56)] [(2, (61 : Int)), (2, (56 : Int))]
  refine ev_putrF (j := 4) dX8_init_36 cf_X8 wf_X8_25 sp56 (by decide) (by decide) rfl rfl rfl rfl (fun z => absurd z (by decide +kernel)) ?_
  show Ev _ _ _ _ 39 62 _ _ [(2, 56)] []
  refine ev_aload_n dX8_init_39 rfl (by decide) ?_
  show Ev _ _ _ _ 40 62 _ _ [(2, 56)] [(2, (56 : Int))]
  refine ev_iconst dX8_init_40 (by decide) ?_
  show Ev _ _ _ _ 41 62 _ _ [(2, 56)] [(0, (5 : Int)), (2, (56 : Int))]
  refine ev_newl (N := 5) dX8_init_41 wylong sp62 (by decide) (by decide) ?_
  show Ev _ _ _ _ 43 63 _ _ [(2, 56)] [(2, (62 : Int)), (2, (56 : Int))]
  refine ev_putrF (j := 5) dX8_init_43 cf_X8 wf_X8_28 sp56 (by decide) (by decide) rfl rfl rfl rfl (fun z => absurd z (by decide +kernel)) ?_
  show Ev _ _ _ _ 46 63 _ _ [(2, 56)] []
  refine ev_aload_n dX8_init_46 rfl (by decide) ?_
  show Ev _ _ _ _ 47 63 _ _ [(2, 56)] [(2, (56 : Int))]
  refine ev_bipush dX8_init_47 (by decide) (by decide) ?_
  show Ev _ _ _ _ 49 63 _ _ [(2, 56)] [(0, (20 : Int)), (2, (56 : Int))]
  refine ev_newi (N := 20) dX8_init_49 wyint sp63 (by decide) (by decide) ?_
  show Ev _ _ _ _ 51 64 _ _ [(2, 56)] [(2, (63 : Int)), (2, (56 : Int))]
  refine ev_putrF (j := 6) dX8_init_51 cf_X8 wf_X8_32 sp56 (by decide) (by decide) rfl rfl rfl rfl (fun z => absurd z (by decide +kernel)) ?_
  show Ev _ _ _ _ 54 64 _ _ [(2, 56)] []
  refine ev_aload_n dX8_init_54 rfl (by decide) ?_
  show Ev _ _ _ _ 55 64 _ _ [(2, 56)] [(2, (56 : Int))]
  refine ev_bipush dX8_init_55 (by decide) (by decide) ?_
  show Ev _ _ _ _ 57 64 _ _ [(2, 56)] [(0, (20 : Int)), (2, (56 : Int))]
  refine ev_newi (N := 20) dX8_init_57 wyint sp64 (by decide) (by decide) ?_
  show Ev _ _ _ _ 59 65 _ _ [(2, 56)] [(2, (64 : Int)), (2, (56 : Int))]
  refine ev_putrF (j := 7) dX8_init_59 cf_X8 wf_X8_35 sp56 (by decide) (by decide) rfl rfl rfl rfl (fun z => absurd z (by decide +kernel)) ?_
  show Ev _ _ _ _ 62 65 _ _ [(2, 56)] []
  refine ev_aload_n dX8_init_62 rfl (by decide) ?_
  show Ev _ _ _ _ 63 65 _ _ [(2, 56)] [(2, (56 : Int))]
  refine ev_bipush dX8_init_63 (by decide) (by decide) ?_
  show Ev _ _ _ _ 65 65 _ _ [(2, 56)] [(0, (20 : Int)), (2, (56 : Int))]
  refine ev_newi (N := 20) dX8_init_65 wyint sp65 (by decide) (by decide) ?_
  show Ev _ _ _ _ 67 66 _ _ [(2, 56)] [(2, (65 : Int)), (2, (56 : Int))]
  refine ev_putrF (j := 8) dX8_init_67 cf_X8 wf_X8_38 sp56 (by decide) (by decide) rfl rfl rfl rfl (fun z => absurd z (by decide +kernel)) ?_
  show Ev _ _ _ _ 70 66 _ _ [(2, 56)] []
  exact ev_vret dX8_init_70 rfl rfl
def rc_X8_init_67 (ρ : Mem) : Mem := (mup (mup (mup (mup (mup (mup (mup (mup (mup ρ 66 0 67) 66 1 68) 66 2 69) 66 3 70) 66 4 71) 66 5 72) 66 6 73) 66 7 74) 66 8 75)
def sc_X8_init_67 (σ : Mem) : Mem := σ
set_option maxHeartbeats 4000000 in
set_option maxRecDepth 20000 in
theorem c_X8_init_67 (ρ σ : Mem) : Ms yX8_init M_X8_init 67 76 [(2, 66)] ρ σ (none, rc_X8_init_67 ρ, sc_X8_init_67 σ) := by
  refine Ms.of 0 (by decide +kernel) rfl (fun _ => rfl) (fun _ _ _ => trivial) rfl rfl ?_
  show Ev M_X8_init 67 76 _ 0 67 ρ σ [(2, 66)] []
  show Ev _ _ _ _ 0 67 _ _ [(2, 66)] []
  refine ev_aload_n dX8_init_0 rfl (by decide) ?_
  show Ev _ _ _ _ 1 67 _ _ [(2, 66)] [(2, (66 : Int))]
  refine ev_oinit dX8_init_1 wo_X8_3 wo_i wo_c (by decide) (by decide) (by decide) ?_
  show Ev _ _ _ _ 4 67 _ _ [(2, 66)] []
  refine ev_aload_n dX8_init_4 rfl (by decide) ?_
  show Ev _ _ _ _ 5 67 _ _ [(2, 66)] [(2, (66 : Int))]
  refine ev_iconst dX8_init_5 (by decide) ?_
  show Ev _ _ _ _ 6 67 _ _ [(2, 66)] [(0, (5 : Int)), (2, (66 : Int))]
  refine ev_newz (N := 5) dX8_init_6 wyboolean sp67 (by decide) (by decide) ?_
  show Ev _ _ _ _ 8 68 _ _ [(2, 66)] [(2, (67 : Int)), (2, (66 : Int))]
  refine ev_putrF (j := 0) dX8_init_8 cf_X8 wf_X8_9 sp66 (by decide) (by decide) rfl rfl rfl rfl (fun z => absurd z (by decide +kernel)) ?_
  show Ev _ _ _ _ 11 68 _ _ [(2, 66)] []
  refine ev_aload_n dX8_init_11 rfl (by decide) ?_
  show Ev _ _ _ _ 12 68 _ _ [(2, 66)] [(2, (66 : Int))]
  refine ev_iconst dX8_init_12 (by decide) ?_
  show Ev _ _ _ _ 13 68 _ _ [(2, 66)] [(0, (5 : Int)), (2, (66 : Int))]
  refine ev_newi (N := 5) dX8_init_13 wyint sp68 (by decide) (by decide) ?_
  show Ev _ _ _ _ 15 69 _ _ [(2, 66)] [(2, (68 : Int)), (2, (66 : Int))]
  refine ev_putrF (j := 1) dX8_init_15 cf_X8 wf_X8_15 sp66 (by decide) (by decide) rfl rfl rfl rfl (fun z => absurd z (by decide +kernel)) ?_
  show Ev _ _ _ _ 18 69 _ _ [(2, 66)] []
  refine ev_aload_n dX8_init_18 rfl (by decide) ?_
  show Ev _ _ _ _ 19 69 _ _ [(2, 66)] [(2, (66 : Int))]
  refine ev_iconst dX8_init_19 (by decide) ?_
  show Ev _ _ _ _ 20 69 _ _ [(2, 66)] [(0, (5 : Int)), (2, (66 : Int))]
  refine ev_newi (N := 5) dX8_init_20 wyint sp69 (by decide) (by decide) ?_
  show Ev _ _ _ _ 22 70 _ _ [(2, 66)] [(2, (69 : Int)), (2, (66 : Int))]
  refine ev_putrF (j := 2) dX8_init_22 cf_X8 wf_X8_19 sp66 (by decide) (by decide) rfl rfl rfl rfl (fun z => absurd z (by decide +kernel)) ?_
  show Ev _ _ _ _ 25 70 _ _ [(2, 66)] []
  refine ev_aload_n dX8_init_25 rfl (by decide) ?_
  show Ev _ _ _ _ 26 70 _ _ [(2, 66)] [(2, (66 : Int))]
  refine ev_iconst dX8_init_26 (by decide) ?_
  show Ev _ _ _ _ 27 70 _ _ [(2, 66)] [(0, (5 : Int)), (2, (66 : Int))]
  refine ev_newi (N := 5) dX8_init_27 wyint sp70 (by decide) (by decide) ?_
  show Ev _ _ _ _ 29 71 _ _ [(2, 66)] [(2, (70 : Int)), (2, (66 : Int))]
  refine ev_putrF (j := 3) dX8_init_29 cf_X8 wf_X8_22 sp66 (by decide) (by decide) rfl rfl rfl rfl (fun z => absurd z (by decide +kernel)) ?_
  show Ev _ _ _ _ 32 71 _ _ [(2, 66)] []
  refine ev_aload_n dX8_init_32 rfl (by decide) ?_
  show Ev _ _ _ _ 33 71 _ _ [(2, 66)] [(2, (66 : Int))]
  refine ev_iconst dX8_init_33 (by decide) ?_
  show Ev _ _ _ _ 34 71 _ _ [(2, 66)] [(0, (5 : Int)), (2, (66 : Int))]
  refine ev_newi (N := 5) dX8_init_34 wyint sp71 (by decide) (by decide) ?_
  show Ev _ _ _ _ 36 72 _ _ [(2, 66)] [(2, (71 : Int)), (2, (66 : Int))]
  refine ev_putrF (j := 4) dX8_init_36 cf_X8 wf_X8_25 sp66 (by decide) (by decide) rfl rfl rfl rfl (fun z => absurd z (by decide +kernel)) ?_
  show Ev _ _ _ _ 39 72 _ _ [(2, 66)] []
  refine ev_aload_n dX8_init_39 rfl (by decide) ?_
  show Ev _ _ _ _ 40 72 _ _ [(2, 66)] [(2, (66 : Int))]
  refine ev_iconst dX8_init_40 (by decide) ?_
  show Ev _ _ _ _ 41 72 _ _ [(2, 66)] [(0, (5 : Int)), (2, (66 : Int))]
  refine ev_newl (N := 5) dX8_init_41 wylong sp72 (by decide) (by decide) ?_
  show Ev _ _ _ _ 43 73 _ _ [(2, 66)] [(2, (72 : Int)), (2, (66 : Int))]
  refine ev_putrF (j := 5) dX8_init_43 cf_X8 wf_X8_28 sp66 (by decide) (by decide) rfl rfl rfl rfl (fun z => absurd z (by decide +kernel)) ?_
  show Ev _ _ _ _ 46 73 _ _ [(2, 66)] []
  refine ev_aload_n dX8_init_46 rfl (by decide) ?_
  show Ev _ _ _ _ 47 73 _ _ [(2, 66)] [(2, (66 : Int))]
  refine ev_bipush dX8_init_47 (by decide) (by decide) ?_
  show Ev _ _ _ _ 49 73 _ _ [(2, 66)] [(0, (20 : Int)), (2, (66 : Int))]
  refine ev_newi (N := 20) dX8_init_49 wyint sp73 (by decide) (by decide) ?_
  show Ev _ _ _ _ 51 74 _ _ [(2, 66)] [(2, (73 : Int)), (2, (66 : Int))]
  refine ev_putrF (j := 6) dX8_init_51 cf_X8 wf_X8_32 sp66 (by decide) (by decide) rfl rfl rfl rfl (fun z => absurd z (by decide +kernel)) ?_
  show Ev _ _ _ _ 54 74 _ _ [(2, 66)] []
  refine ev_aload_n dX8_init_54 rfl (by decide) ?_
  show Ev _ _ _ _ 55 74 _ _ [(2, 66)] [(2, (66 : Int))]
  refine ev_bipush dX8_init_55 (by decide) (by decide) ?_
  show Ev _ _ _ _ 57 74 _ _ [(2, 66)] [(0, (20 : Int)), (2, (66 : Int))]
  refine ev_newi (N := 20) dX8_init_57 wyint sp74 (by decide) (by decide) ?_
  show Ev _ _ _ _ 59 75 _ _ [(2, 66)] [(2, (74 : Int)), (2, (66 : Int))]
  refine ev_putrF (j := 7) dX8_init_59 cf_X8 wf_X8_35 sp66 (by decide) (by decide) rfl rfl rfl rfl (fun z => absurd z (by decide +kernel)) ?_
  show Ev _ _ _ _ 62 75 _ _ [(2, 66)] []
  refine ev_aload_n dX8_init_62 rfl (by decide) ?_
  show Ev _ _ _ _ 63 75 _ _ [(2, 66)] [(2, (66 : Int))]
  refine ev_bipush dX8_init_63 (by decide) (by decide) ?_
  show Ev _ _ _ _ 65 75 _ _ [(2, 66)] [(0, (20 : Int)), (2, (66 : Int))]
  refine ev_newi (N := 20) dX8_init_65 wyint sp75 (by decide) (by decide) ?_
  show Ev _ _ _ _ 67 76 _ _ [(2, 66)] [(2, (75 : Int)), (2, (66 : Int))]
  refine ev_putrF (j := 8) dX8_init_67 cf_X8 wf_X8_38 sp66 (by decide) (by decide) rfl rfl rfl rfl (fun z => absurd z (by decide +kernel)) ?_
  show Ev _ _ _ _ 70 76 _ _ [(2, 66)] []
  exact ev_vret dX8_init_70 rfl rfl
def rc_X8_init_77 (ρ : Mem) : Mem := (mup (mup (mup (mup (mup (mup (mup (mup (mup ρ 76 0 77) 76 1 78) 76 2 79) 76 3 80) 76 4 81) 76 5 82) 76 6 83) 76 7 84) 76 8 85)
def sc_X8_init_77 (σ : Mem) : Mem := σ
set_option maxHeartbeats 4000000 in
set_option maxRecDepth 20000 in
theorem c_X8_init_77 (ρ σ : Mem) : Ms yX8_init M_X8_init 77 86 [(2, 76)] ρ σ (none, rc_X8_init_77 ρ, sc_X8_init_77 σ) := by
  refine Ms.of 0 (by decide +kernel) rfl (fun _ => rfl) (fun _ _ _ => trivial) rfl rfl ?_
  show Ev M_X8_init 77 86 _ 0 77 ρ σ [(2, 76)] []
  show Ev _ _ _ _ 0 77 _ _ [(2, 76)] []
  refine ev_aload_n dX8_init_0 rfl (by decide) ?_
  show Ev _ _ _ _ 1 77 _ _ [(2, 76)] [(2, (76 : Int))]
  refine ev_oinit dX8_init_1 wo_X8_3 wo_i wo_c (by decide) (by decide) (by decide) ?_
  show Ev _ _ _ _ 4 77 _ _ [(2, 76)] []
  refine ev_aload_n dX8_init_4 rfl (by decide) ?_
  show Ev _ _ _ _ 5 77 _ _ [(2, 76)] [(2, (76 : Int))]
  refine ev_iconst dX8_init_5 (by decide) ?_
  show Ev _ _ _ _ 6 77 _ _ [(2, 76)] [(0, (5 : Int)), (2, (76 : Int))]
  refine ev_newz (N := 5) dX8_init_6 wyboolean sp77 (by decide) (by decide) ?_
  show Ev _ _ _ _ 8 78 _ _ [(2, 76)] [(2, (77 : Int)), (2, (76 : Int))]
  refine ev_putrF (j := 0) dX8_init_8 cf_X8 wf_X8_9 sp76 (by decide) (by decide) rfl rfl rfl rfl (fun z => absurd z (by decide +kernel)) ?_
  show Ev _ _ _ _ 11 78 _ _ [(2, 76)] []
  refine ev_aload_n dX8_init_11 rfl (by decide) ?_
  show Ev _ _ _ _ 12 78 _ _ [(2, 76)] [(2, (76 : Int))]
  refine ev_iconst dX8_init_12 (by decide) ?_
  show Ev _ _ _ _ 13 78 _ _ [(2, 76)] [(0, (5 : Int)), (2, (76 : Int))]
  refine ev_newi (N := 5) dX8_init_13 wyint sp78 (by decide) (by decide) ?_
  show Ev _ _ _ _ 15 79 _ _ [(2, 76)] [(2, (78 : Int)), (2, (76 : Int))]
  refine ev_putrF (j := 1) dX8_init_15 cf_X8 wf_X8_15 sp76 (by decide) (by decide) rfl rfl rfl rfl (fun z => absurd z (by decide +kernel)) ?_
  show Ev _ _ _ _ 18 79 _ _ [(2, 76)] []
  refine ev_aload_n dX8_init_18 rfl (by decide) ?_
  show Ev _ _ _ _ 19 79 _ _ [(2, 76)] [(2, (76 : Int))]
  refine ev_iconst dX8_init_19 (by decide) ?_
  show Ev _ _ _ _ 20 79 _ _ [(2, 76)] [(0, (5 : Int)), (2, (76 : Int))]
  refine ev_newi (N := 5) dX8_init_20 wyint sp79 (by decide) (by decide) ?_
  show Ev _ _ _ _ 22 80 _ _ [(2, 76)] [(2, (79 : Int)), (2, (76 : Int))]
  refine ev_putrF (j := 2) dX8_init_22 cf_X8 wf_X8_19 sp76 (by decide) (by decide) rfl rfl rfl rfl (fun z => absurd z (by decide +kernel)) ?_
  show Ev _ _ _ _ 25 80 _ _ [(2, 76)] []
  refine ev_aload_n dX8_init_25 rfl (by decide) ?_
  show Ev _ _ _ _ 26 80 _ _ [(2, 76)] [(2, (76 : Int))]
  refine ev_iconst dX8_init_26 (by decide) ?_
  show Ev _ _ _ _ 27 80 _ _ [(2, 76)] [(0, (5 : Int)), (2, (76 : Int))]
  refine ev_newi (N := 5) dX8_init_27 wyint sp80 (by decide) (by decide) ?_
  show Ev _ _ _ _ 29 81 _ _ [(2, 76)] [(2, (80 : Int)), (2, (76 : Int))]
  refine ev_putrF (j := 3) dX8_init_29 cf_X8 wf_X8_22 sp76 (by decide) (by decide) rfl rfl rfl rfl (fun z => absurd z (by decide +kernel)) ?_
  show Ev _ _ _ _ 32 81 _ _ [(2, 76)] []
  refine ev_aload_n dX8_init_32 rfl (by decide) ?_
  show Ev _ _ _ _ 33 81 _ _ [(2, 76)] [(2, (76 : Int))]
  refine ev_iconst dX8_init_33 (by decide) ?_
  show Ev _ _ _ _ 34 81 _ _ [(2, 76)] [(0, (5 : Int)), (2, (76 : Int))]
  refine ev_newi (N := 5) dX8_init_34 wyint sp81 (by decide) (by decide) ?_
  show Ev _ _ _ _ 36 82 _ _ [(2, 76)] [(2, (81 : Int)), (2, (76 : Int))]
  refine ev_putrF (j := 4) dX8_init_36 cf_X8 wf_X8_25 sp76 (by decide) (by decide) rfl rfl rfl rfl (fun z => absurd z (by decide +kernel)) ?_
  show Ev _ _ _ _ 39 82 _ _ [(2, 76)] []
  refine ev_aload_n dX8_init_39 rfl (by decide) ?_
  show Ev _ _ _ _ 40 82 _ _ [(2, 76)] [(2, (76 : Int))]
  refine ev_iconst dX8_init_40 (by decide) ?_
  show Ev _ _ _ _ 41 82 _ _ [(2, 76)] [(0, (5 : Int)), (2, (76 : Int))]
  refine ev_newl (N := 5) dX8_init_41 wylong sp82 (by decide) (by decide) ?_
  show Ev _ _ _ _ 43 83 _ _ [(2, 76)] [(2, (82 : Int)), (2, (76 : Int))]
  refine ev_putrF (j := 5) dX8_init_43 cf_X8 wf_X8_28 sp76 (by decide) (by decide) rfl rfl rfl rfl (fun z => absurd z (by decide +kernel)) ?_
  show Ev _ _ _ _ 46 83 _ _ [(2, 76)] []
  refine ev_aload_n dX8_init_46 rfl (by decide) ?_
  show Ev _ _ _ _ 47 83 _ _ [(2, 76)] [(2, (76 : Int))]
  refine ev_bipush dX8_init_47 (by decide) (by decide) ?_
  show Ev _ _ _ _ 49 83 _ _ [(2, 76)] [(0, (20 : Int)), (2, (76 : Int))]
  refine ev_newi (N := 20) dX8_init_49 wyint sp83 (by decide) (by decide) ?_
  show Ev _ _ _ _ 51 84 _ _ [(2, 76)] [(2, (83 : Int)), (2, (76 : Int))]
  refine ev_putrF (j := 6) dX8_init_51 cf_X8 wf_X8_32 sp76 (by decide) (by decide) rfl rfl rfl rfl (fun z => absurd z (by decide +kernel)) ?_
  show Ev _ _ _ _ 54 84 _ _ [(2, 76)] []
  refine ev_aload_n dX8_init_54 rfl (by decide) ?_
  show Ev _ _ _ _ 55 84 _ _ [(2, 76)] [(2, (76 : Int))]
  refine ev_bipush dX8_init_55 (by decide) (by decide) ?_
  show Ev _ _ _ _ 57 84 _ _ [(2, 76)] [(0, (20 : Int)), (2, (76 : Int))]
  refine ev_newi (N := 20) dX8_init_57 wyint sp84 (by decide) (by decide) ?_
  show Ev _ _ _ _ 59 85 _ _ [(2, 76)] [(2, (84 : Int)), (2, (76 : Int))]
  refine ev_putrF (j := 7) dX8_init_59 cf_X8 wf_X8_35 sp76 (by decide) (by decide) rfl rfl rfl rfl (fun z => absurd z (by decide +kernel)) ?_
  show Ev _ _ _ _ 62 85 _ _ [(2, 76)] []
  refine ev_aload_n dX8_init_62 rfl (by decide) ?_
  show Ev _ _ _ _ 63 85 _ _ [(2, 76)] [(2, (76 : Int))]
  refine ev_bipush dX8_init_63 (by decide) (by decide) ?_
  show Ev _ _ _ _ 65 85 _ _ [(2, 76)] [(0, (20 : Int)), (2, (76 : Int))]
  refine ev_newi (N := 20) dX8_init_65 wyint sp85 (by decide) (by decide) ?_
  show Ev _ _ _ _ 67 86 _ _ [(2, 76)] [(2, (85 : Int)), (2, (76 : Int))]
  refine ev_putrF (j := 8) dX8_init_67 cf_X8 wf_X8_38 sp76 (by decide) (by decide) rfl rfl rfl rfl (fun z => absurd z (by decide +kernel)) ?_
  show Ev _ _ _ _ 70 86 _ _ [(2, 76)] []
  exact ev_vret dX8_init_70 rfl rfl
def rc_X8_init_87 (ρ : Mem) : Mem := (mup (mup (mup (mup (mup (mup (mup (mup (mup ρ 86 0 87) 86 1 88) 86 2 89) 86 3 90) 86 4 91) 86 5 92) 86 6 93) 86 7 94) 86 8 95)
def sc_X8_init_87 (σ : Mem) : Mem := σ
set_option maxHeartbeats 4000000 in
set_option maxRecDepth 20000 in
theorem c_X8_init_87 (ρ σ : Mem) : Ms yX8_init M_X8_init 87 96 [(2, 86)] ρ σ (none, rc_X8_init_87 ρ, sc_X8_init_87 σ) := by
  refine Ms.of 0 (by decide +kernel) rfl (fun _ => rfl) (fun _ _ _ => trivial) rfl rfl ?_
  show Ev M_X8_init 87 96 _ 0 87 ρ σ [(2, 86)] []
  show Ev _ _ _ _ 0 87 _ _ [(2, 86)] []
  refine ev_aload_n dX8_init_0 rfl (by decide) ?_
  show Ev _ _ _ _ 1 87 _ _ [(2, 86)] [(2, (86 : Int))]
  refine ev_oinit dX8_init_1 wo_X8_3 wo_i wo_c (by decide) (by decide) (by decide) ?_
  show Ev _ _ _ _ 4 87 _ _ [(2, 86)] []
  refine ev_aload_n dX8_init_4 rfl (by decide) ?_
  show Ev _ _ _ _ 5 87 _ _ [(2, 86)] [(2, (86 : Int))]
  refine ev_iconst dX8_init_5 (by decide) ?_
  show Ev _ _ _ _ 6 87 _ _ [(2, 86)] [(0, (5 : Int)), (2, (86 : Int))]
  refine ev_newz (N := 5) dX8_init_6 wyboolean sp87 (by decide) (by decide) ?_
  show Ev _ _ _ _ 8 88 _ _ [(2, 86)] [(2, (87 : Int)), (2, (86 : Int))]
  refine ev_putrF (j := 0) dX8_init_8 cf_X8 wf_X8_9 sp86 (by decide) (by decide) rfl rfl rfl rfl (fun z => absurd z (by decide +kernel)) ?_
  show Ev _ _ _ _ 11 88 _ _ [(2, 86)] []
  refine ev_aload_n dX8_init_11 rfl (by decide) ?_
  show Ev _ _ _ _ 12 88 _ _ [(2, 86)] [(2, (86 : Int))]
  refine ev_iconst dX8_init_12 (by decide) ?_
  show Ev _ _ _ _ 13 88 _ _ [(2, 86)] [(0, (5 : Int)), (2, (86 : Int))]
  refine ev_newi (N := 5) dX8_init_13 wyint sp88 (by decide) (by decide) ?_
  show Ev _ _ _ _ 15 89 _ _ [(2, 86)] [(2, (88 : Int)), (2, (86 : Int))]
  refine ev_putrF (j := 1) dX8_init_15 cf_X8 wf_X8_15 sp86 (by decide) (by decide) rfl rfl rfl rfl (fun z => absurd z (by decide +kernel)) ?_
  show Ev _ _ _ _ 18 89 _ _ [(2, 86)] []
  refine ev_aload_n dX8_init_18 rfl (by decide) ?_
  show Ev _ _ _ _ 19 89 _ _ [(2, 86)] [(2, (86 : Int))]
  refine ev_iconst dX8_init_19 (by decide) ?_
  show Ev _ _ _ _ 20 89 _ _ [(2, 86)] [(0, (5 : Int)), (2, (86 : Int))]
  refine ev_newi (N := 5) dX8_init_20 wyint sp89 (by decide) (by decide) ?_
  show Ev _ _ _ _ 22 90 _ _ [(2, 86)] [(2, (89 : Int)), (2, (86 : Int))]
  refine ev_putrF (j := 2) dX8_init_22 cf_X8 wf_X8_19 sp86 (by decide) (by decide) rfl rfl rfl rfl (fun z => absurd z (by decide +kernel)) ?_
  show Ev _ _ _ _ 25 90 _ _ [(2, 86)] []
  refine ev_aload_n dX8_init_25 rfl (by decide) ?_
  show Ev _ _ _ _ 26 90 _ _ [(2, 86)] [(2, (86 : Int))]
  refine ev_iconst dX8_init_26 (by decide) ?_
  show Ev _ _ _ _ 27 90 _ _ [(2, 86)] [(0, (5 : Int)), (2, (86 : Int))]
  refine ev_newi (N := 5) dX8_init_27 wyint sp90 (by decide) (by decide) ?_
  show Ev _ _ _ _ 29 91 _ _ [(2, 86)] [(2, (90 : Int)), (2, (86 : Int))]
  refine ev_putrF (j := 3) dX8_init_29 cf_X8 wf_X8_22 sp86 (by decide) (by decide) rfl rfl rfl rfl (fun z => absurd z (by decide +kernel)) ?_
  show Ev _ _ _ _ 32 91 _ _ [(2, 86)] []
  refine ev_aload_n dX8_init_32 rfl (by decide) ?_
  show Ev _ _ _ _ 33 91 _ _ [(2, 86)] [(2, (86 : Int))]
  refine ev_iconst dX8_init_33 (by decide) ?_
  show Ev _ _ _ _ 34 91 _ _ [(2, 86)] [(0, (5 : Int)), (2, (86 : Int))]
  refine ev_newi (N := 5) dX8_init_34 wyint sp91 (by decide) (by decide) ?_
  show Ev _ _ _ _ 36 92 _ _ [(2, 86)] [(2, (91 : Int)), (2, (86 : Int))]
  refine ev_putrF (j := 4) dX8_init_36 cf_X8 wf_X8_25 sp86 (by decide) (by decide) rfl rfl rfl rfl (fun z => absurd z (by decide +kernel)) ?_
  show Ev _ _ _ _ 39 92 _ _ [(2, 86)] []
  refine ev_aload_n dX8_init_39 rfl (by decide) ?_
  show Ev _ _ _ _ 40 92 _ _ [(2, 86)] [(2, (86 : Int))]
  refine ev_iconst dX8_init_40 (by decide) ?_
  show Ev _ _ _ _ 41 92 _ _ [(2, 86)] [(0, (5 : Int)), (2, (86 : Int))]
  refine ev_newl (N := 5) dX8_init_41 wylong sp92 (by decide) (by decide) ?_
  show Ev _ _ _ _ 43 93 _ _ [(2, 86)] [(2, (92 : Int)), (2, (86 : Int))]
  refine ev_putrF (j := 5) dX8_init_43 cf_X8 wf_X8_28 sp86 (by decide) (by decide) rfl rfl rfl rfl (fun z => absurd z (by decide +kernel)) ?_
  show Ev _ _ _ _ 46 93 _ _ [(2, 86)] []
  refine ev_aload_n dX8_init_46 rfl (by decide) ?_
  show Ev _ _ _ _ 47 93 _ _ [(2, 86)] [(2, (86 : Int))]
  refine ev_bipush dX8_init_47 (by decide) (by decide) ?_
  show Ev _ _ _ _ 49 93 _ _ [(2, 86)] [(0, (20 : Int)), (2, (86 : Int))]
  refine ev_newi (N := 20) dX8_init_49 wyint sp93 (by decide) (by decide) ?_
  show Ev _ _ _ _ 51 94 _ _ [(2, 86)] [(2, (93 : Int)), (2, (86 : Int))]
  refine ev_putrF (j := 6) dX8_init_51 cf_X8 wf_X8_32 sp86 (by decide) (by decide) rfl rfl rfl rfl (fun z => absurd z (by decide +kernel)) ?_
  show Ev _ _ _ _ 54 94 _ _ [(2, 86)] []
  refine ev_aload_n dX8_init_54 rfl (by decide) ?_
  show Ev _ _ _ _ 55 94 _ _ [(2, 86)] [(2, (86 : Int))]
  refine ev_bipush dX8_init_55 (by decide) (by decide) ?_
  show Ev _ _ _ _ 57 94 _ _ [(2, 86)] [(0, (20 : Int)), (2, (86 : Int))]
  refine ev_newi (N := 20) dX8_init_57 wyint sp94 (by decide) (by decide) ?_
  show Ev _ _ _ _ 59 95 _ _ [(2, 86)] [(2, (94 : Int)), (2, (86 : Int))]
  refine ev_putrF (j := 7) dX8_init_59 cf_X8 wf_X8_35 sp86 (by decide) (by decide) rfl rfl rfl rfl (fun z => absurd z (by decide +kernel)) ?_
  show Ev _ _ _ _ 62 95 _ _ [(2, 86)] []
  refine ev_aload_n dX8_init_62 rfl (by decide) ?_
  show Ev _ _ _ _ 63 95 _ _ [(2, 86)] [(2, (86 : Int))]
  refine ev_bipush dX8_init_63 (by decide) (by decide) ?_
  show Ev _ _ _ _ 65 95 _ _ [(2, 86)] [(0, (20 : Int)), (2, (86 : Int))]
  refine ev_newi (N := 20) dX8_init_65 wyint sp95 (by decide) (by decide) ?_
  show Ev _ _ _ _ 67 96 _ _ [(2, 86)] [(2, (95 : Int)), (2, (86 : Int))]
  refine ev_putrF (j := 8) dX8_init_67 cf_X8 wf_X8_38 sp86 (by decide) (by decide) rfl rfl rfl rfl (fun z => absurd z (by decide +kernel)) ?_
  show Ev _ _ _ _ 70 96 _ _ [(2, 86)] []
  exact ev_vret dX8_init_70 rfl rfl
def rc_X8_init_97 (ρ : Mem) : Mem := (mup (mup (mup (mup (mup (mup (mup (mup (mup ρ 96 0 97) 96 1 98) 96 2 99) 96 3 100) 96 4 101) 96 5 102) 96 6 103) 96 7 104) 96 8 105)
def sc_X8_init_97 (σ : Mem) : Mem := σ
set_option maxHeartbeats 4000000 in
set_option maxRecDepth 20000 in
theorem c_X8_init_97 (ρ σ : Mem) : Ms yX8_init M_X8_init 97 106 [(2, 96)] ρ σ (none, rc_X8_init_97 ρ, sc_X8_init_97 σ) := by
  refine Ms.of 0 (by decide +kernel) rfl (fun _ => rfl) (fun _ _ _ => trivial) rfl rfl ?_
  show Ev M_X8_init 97 106 _ 0 97 ρ σ [(2, 96)] []
  show Ev _ _ _ _ 0 97 _ _ [(2, 96)] []
  refine ev_aload_n dX8_init_0 rfl (by decide) ?_
  show Ev _ _ _ _ 1 97 _ _ [(2, 96)] [(2, (96 : Int))]
  refine ev_oinit dX8_init_1 wo_X8_3 wo_i wo_c (by decide) (by decide) (by decide) ?_
  show Ev _ _ _ _ 4 97 _ _ [(2, 96)] []
  refine ev_aload_n dX8_init_4 rfl (by decide) ?_
  show Ev _ _ _ _ 5 97 _ _ [(2, 96)] [(2, (96 : Int))]
  refine ev_iconst dX8_init_5 (by decide) ?_
  show Ev _ _ _ _ 6 97 _ _ [(2, 96)] [(0, (5 : Int)), (2, (96 : Int))]
  refine ev_newz (N := 5) dX8_init_6 wyboolean sp97 (by decide) (by decide) ?_
  show Ev _ _ _ _ 8 98 _ _ [(2, 96)] [(2, (97 : Int)), (2, (96 : Int))]
  refine ev_putrF (j := 0) dX8_init_8 cf_X8 wf_X8_9 sp96 (by decide) (by decide) rfl rfl rfl rfl (fun z => absurd z (by decide +kernel)) ?_
  show Ev _ _ _ _ 11 98 _ _ [(2, 96)] []
  refine ev_aload_n dX8_init_11 rfl (by decide) ?_
  show Ev _ _ _ _ 12 98 _ _ [(2, 96)] [(2, (96 : Int))]
  refine ev_iconst dX8_init_12 (by decide) ?_
  show Ev _ _ _ _ 13 98 _ _ [(2, 96)] [(0, (5 : Int)), (2, (96 : Int))]
  refine ev_newi (N := 5) dX8_init_13 wyint sp98 (by decide) (by decide) ?_
  show Ev _ _ _ _ 15 99 _ _ [(2, 96)] [(2, (98 : Int)), (2, (96 : Int))]
  refine ev_putrF (j := 1) dX8_init_15 cf_X8 wf_X8_15 sp96 (by decide) (by decide) rfl rfl rfl rfl (fun z => absurd z (by decide +kernel)) ?_
  show Ev _ _ _ _ 18 99 _ _ [(2, 96)] []
  refine ev_aload_n dX8_init_18 rfl (by decide) ?_
  show Ev _ _ _ _ 19 99 _ _ [(2, 96)] [(2, (96 : Int))]
  refine ev_iconst dX8_init_19 (by decide) ?_
  show Ev _ _ _ _ 20 99 _ _ [(2, 96)] [(0, (5 : Int)), (2, (96 : Int))]
  refine ev_newi (N := 5) dX8_init_20 wyint sp99 (by decide) (by decide) ?_
  show Ev _ _ _ _ 22 100 _ _ [(2, 96)] [(2, (99 : Int)), (2, (96 : Int))]
  refine ev_putrF (j := 2) dX8_init_22 cf_X8 wf_X8_19 sp96 (by decide) (by decide) rfl rfl rfl rfl (fun z => absurd z (by decide +kernel)) ?_
  show Ev _ _ _ _ 25 100 _ _ [(2, 96)] []
  refine ev_aload_n dX8_init_25 rfl (by decide) ?_
  show Ev _ _ _ _ 26 100 _ _ [(2, 96)] [(2, (96 : Int))]
  refine ev_iconst dX8_init_26 (by decide) ?_
  show Ev _ _ _ _ 27 100 _ _ [(2, 96)] [(0, (5 : Int)), (2, (96 : Int))]
  refine ev_newi (N := 5) dX8_init_27 wyint sp100 (by decide) (by decide) ?_
  show Ev _ _ _ _ 29 101 _ _ [(2, 96)] [(2, (100 : Int)), (2, (96 : Int))]
  refine ev_putrF (j := 3) dX8_init_29 cf_X8 wf_X8_22 sp96 (by decide) (by decide) rfl rfl rfl rfl (fun z => absurd z (by decide +kernel)) ?_
  show Ev _ _ _ _ 32 101 _ _ [(2, 96)] []
  refine ev_aload_n dX8_init_32 rfl (by decide) ?_
  show Ev _ _ _ _ 33 101 _ _ [(2, 96)] [(2, (96 : Int))]
  refine ev_iconst dX8_init_33 (by decide) ?_
  show Ev _ _ _ _ 34 101 _ _ [(2, 96)] [(0, (5 : Int)), (2, (96 : Int))]
  refine ev_newi (N := 5) dX8_init_34 wyint sp101 (by decide) (by decide) ?_
  show Ev _ _ _ _ 36 102 _ _ [(2, 96)] [(2, (101 : Int)), (2, (96 : Int))]
  refine ev_putrF (j := 4) dX8_init_36 cf_X8 wf_X8_25 sp96 (by decide) (by decide) rfl rfl rfl rfl (fun z => absurd z (by decide +kernel)) ?_
  show Ev _ _ _ _ 39 102 _ _ [(2, 96)] []
  refine ev_aload_n dX8_init_39 rfl (by decide) ?_
  show Ev _ _ _ _ 40 102 _ _ [(2, 96)] [(2, (96 : Int))]
  refine ev_iconst dX8_init_40 (by decide) ?_
  show Ev _ _ _ _ 41 102 _ _ [(2, 96)] [(0, (5 : Int)), (2, (96 : Int))]
  refine ev_newl (N := 5) dX8_init_41 wylong sp102 (by decide) (by decide) ?_
  show Ev _ _ _ _ 43 103 _ _ [(2, 96)] [(2, (102 : Int)), (2, (96 : Int))]
  refine ev_putrF (j := 5) dX8_init_43 cf_X8 wf_X8_28 sp96 (by decide) (by decide) rfl rfl rfl rfl (fun z => absurd z (by decide +kernel)) ?_
  show Ev _ _ _ _ 46 103 _ _ [(2, 96)] []
  refine ev_aload_n dX8_init_46 rfl (by decide) ?_
  show Ev _ _ _ _ 47 103 _ _ [(2, 96)] [(2, (96 : Int))]
  refine ev_bipush dX8_init_47 (by decide) (by decide) ?_
  show Ev _ _ _ _ 49 103 _ _ [(2, 96)] [(0, (20 : Int)), (2, (96 : Int))]
  refine ev_newi (N := 20) dX8_init_49 wyint sp103 (by decide) (by decide) ?_
  show Ev _ _ _ _ 51 104 _ _ [(2, 96)] [(2, (103 : Int)), (2, (96 : Int))]
  refine ev_putrF (j := 6) dX8_init_51 cf_X8 wf_X8_32 sp96 (by decide) (by decide) rfl rfl rfl rfl (fun z => absurd z (by decide +kernel)) ?_
  show Ev _ _ _ _ 54 104 _ _ [(2, 96)] []
  refine ev_aload_n dX8_init_54 rfl (by decide) ?_
  show Ev _ _ _ _ 55 104 _ _ [(2, 96)] [(2, (96 : Int))]
  refine ev_bipush dX8_init_55 (by decide) (by decide) ?_
  show Ev _ _ _ _ 57 104 _ _ [(2, 96)] [(0, (20 : Int)), (2, (96 : Int))]
  refine ev_newi (N := 20) dX8_init_57 wyint sp104 (by decide) (by decide) ?_
  show Ev _ _ _ _ 59 105 _ _ [(2, 96)] [(2, (104 : Int)), (2, (96 : Int))]
  refine ev_putrF (j := 7) dX8_init_59 cf_X8 wf_X8_35 sp96 (by decide) (by decide) rfl rfl rfl rfl (fun z => absurd z (by decide +kernel)) ?_
  show Ev _ _ _ _ 62 105 _ _ [(2, 96)] []
  refine ev_aload_n dX8_init_62 rfl (by decide) ?_
  show Ev _ _ _ _ 63 105 _ _ [(2, 96)] [(2, (96 : Int))]
  refine ev_bipush dX8_init_63 (by decide) (by decide) ?_
  show Ev _ _ _ _ 65 105 _ _ [(2, 96)] [(0, (20 : Int)), (2, (96 : Int))]
  refine ev_newi (N := 20) dX8_init_65 wyint sp105 (by decide) (by decide) ?_
  show Ev _ _ _ _ 67 106 _ _ [(2, 96)] [(2, (105 : Int)), (2, (96 : Int))]
  refine ev_putrF (j := 8) dX8_init_67 cf_X8 wf_X8_38 sp96 (by decide) (by decide) rfl rfl rfl rfl (fun z => absurd z (by decide +kernel)) ?_
  show Ev _ _ _ _ 70 106 _ _ [(2, 96)] []
  exact ev_vret dX8_init_70 rfl rfl
def rc_X8_init_107 (ρ : Mem) : Mem := (mup (mup (mup (mup (mup (mup (mup (mup (mup ρ 106 0 107) 106 1 108) 106 2 109) 106 3 110) 106 4 111) 106 5 112) 106 6 113) 106 7 114) 106 8 115)
def sc_X8_init_107 (σ : Mem) : Mem := σ
set_option maxHeartbeats 4000000 in
set_option maxRecDepth 20000 in
theorem c_X8_init_107 (ρ σ : Mem) : Ms yX8_init M_X8_init 107 116 [(2, 106)] ρ σ (none, rc_X8_init_107 ρ, sc_X8_init_107 σ) := by
  refine Ms.of 0 (by decide +kernel) rfl (fun _ => rfl) (fun _ _ _ => trivial) rfl rfl ?_
  show Ev M_X8_init 107 116 _ 0 107 ρ σ [(2, 106)] []
  show Ev _ _ _ _ 0 107 _ _ [(2, 106)] []
  refine ev_aload_n dX8_init_0 rfl (by decide) ?_
  show Ev _ _ _ _ 1 107 _ _ [(2, 106)] [(2, (106 : Int))]
  refine ev_oinit dX8_init_1 wo_X8_3 wo_i wo_c (by decide) (by decide) (by decide) ?_
  show Ev _ _ _ _ 4 107 _ _ [(2, 106)] []
  refine ev_aload_n dX8_init_4 rfl (by decide) ?_
  show Ev _ _ _ _ 5 107 _ _ [(2, 106)] [(2, (106 : Int))]
  refine ev_iconst dX8_init_5 (by decide) ?_
  show Ev _ _ _ _ 6 107 _ _ [(2, 106)] [(0, (5 : Int)), (2, (106 : Int))]
  refine ev_newz (N := 5) dX8_init_6 wyboolean sp107 (by decide) (by decide) ?_
  show Ev _ _ _ _ 8 108 _ _ [(2, 106)] [(2, (107 : Int)), (2, (106 : Int))]
  refine ev_putrF (j := 0) dX8_init_8 cf_X8 wf_X8_9 sp106 (by decide) (by decide) rfl rfl rfl rfl (fun z => absurd z (by decide +kernel)) ?_
  show Ev _ _ _ _ 11 108 _ _ [(2, 106)] []
  refine ev_aload_n dX8_init_11 rfl (by decide) ?_
  show Ev _ _ _ _ 12 108 _ _ [(2, 106)] [(2, (106 : Int))]
  refine ev_iconst dX8_init_12 (by decide) ?_
  show Ev _ _ _ _ 13 108 _ _ [(2, 106)] [(0, (5 : Int)), (2, (106 : Int))]
  refine ev_newi (N := 5) dX8_init_13 wyint sp108 (by decide) (by decide) ?_
  show Ev _ _ _ _ 15 109 _ _ [(2, 106)] [(2, (108 : Int)), (2, (106 : Int))]
  refine ev_putrF (j := 1) dX8_init_15 cf_X8 wf_X8_15 sp106 (by decide) (by decide) rfl rfl rfl rfl (fun z => absurd z (by decide +kernel)) ?_
  show Ev _ _ _ _ 18 109 _ _ [(2, 106)] []
  refine ev_aload_n dX8_init_18 rfl (by decide) ?_
  show Ev _ _ _ _ 19 109 _ _ [(2, 106)] [(2, (106 : Int))]
  refine ev_iconst dX8_init_19 (by decide) ?_
  show Ev _ _ _ _ 20 109 _ _ [(2, 106)] [(0, (5 : Int)), (2, (106 : Int))]
  refine ev_newi (N := 5) dX8_init_20 wyint sp109 (by decide) (by decide) ?_
  show Ev _ _ _ _ 22 110 _ _ [(2, 106)] [(2, (109 : Int)), (2, (106 : Int))]
  refine ev_putrF (j := 2) dX8_init_22 cf_X8 wf_X8_19 sp106 (by decide) (by decide) rfl rfl rfl rfl (fun z => absurd z (by decide +kernel)) ?_
  show Ev _ _ _ _ 25 110 _ _ [(2, 106)] []
  refine ev_aload_n dX8_init_25 rfl (by decide) ?_
  show Ev _ _ _ _ 26 110 _ _ [(2, 106)] [(2, (106 : Int))]
  refine ev_iconst dX8_init_26 (by decide) ?_
  show Ev _ _ _ _ 27 110 _ _ [(2, 106)] [(0, (5 : Int)), (2, (106 : Int))]
  refine ev_newi (N := 5) dX8_init_27 wyint sp110 (by decide) (by decide) ?_
  show Ev _ _ _ _ 29 111 _ _ [(2, 106)] [(2, (110 : Int)), (2, (106 : Int))]
  refine ev_putrF (j := 3) dX8_init_29 cf_X8 wf_X8_22 sp106 (by decide) (by decide) rfl rfl rfl rfl (fun z => absurd z (by decide +kernel)) ?_
  show Ev _ _ _ _ 32 111 _ _ [(2, 106)] []
  refine ev_aload_n dX8_init_32 rfl (by decide) ?_
  show Ev _ _ _ _ 33 111 _ _ [(2, 106)] [(2, (106 : Int))]
  refine ev_iconst dX8_init_33 (by decide) ?_
  show Ev _ _ _ _ 34 111 _ _ [(2, 106)] [(0, (5 : Int)), (2, (106 : Int))]
  refine ev_newi (N := 5) dX8_init_34 wyint sp111 (by decide) (by decide) ?_
  show Ev _ _ _ _ 36 112 _ _ [(2, 106)] [(2, (111 : Int)), (2, (106 : Int))]
  refine ev_putrF (j := 4) dX8_init_36 cf_X8 wf_X8_25 sp106 (by decide) (by decide) rfl rfl rfl rfl (fun z => absurd z (by decide +kernel)) ?_
  show Ev _ _ _ _ 39 112 _ _ [(2, 106)] []
  refine ev_aload_n dX8_init_39 rfl (by decide) ?_
  show Ev _ _ _ _ 40 112 _ _ [(2, 106)] [(2, (106 : Int))]
  refine ev_iconst dX8_init_40 (by decide) ?_
  show Ev _ _ _ _ 41 112 _ _ [(2, 106)] [(0, (5 : Int)), (2, (106 : Int))]
  refine ev_newl (N := 5) dX8_init_41 wylong sp112 (by decide) (by decide) ?_
  show Ev _ _ _ _ 43 113 _ _ [(2, 106)] [(2, (112 : Int)), (2, (106 : Int))]
  refine ev_putrF (j := 5) dX8_init_43 cf_X8 wf_X8_28 sp106 (by decide) (by decide) rfl rfl rfl rfl (fun z => absurd z (by decide +kernel)) ?_
  show Ev _ _ _ _ 46 113 _ _ [(2, 106)] []
  refine ev_aload_n dX8_init_46 rfl (by decide) ?_
  show Ev _ _ _ _ 47 113 _ _ [(2, 106)] [(2, (106 : Int))]
  refine ev_bipush dX8_init_47 (by decide) (by decide) ?_
  show Ev _ _ _ _ 49 113 _ _ [(2, 106)] [(0, (20 : Int)), (2, (106 : Int))]
  refine ev_newi (N := 20) dX8_init_49 wyint sp113 (by decide) (by decide) ?_
  show Ev _ _ _ _ 51 114 _ _ [(2, 106)] [(2, (113 : Int)), (2, (106 : Int))]
  refine ev_putrF (j := 6) dX8_init_51 cf_X8 wf_X8_32 sp106 (by decide) (by decide) rfl rfl rfl rfl (fun z => absurd z (by decide +kernel)) ?_
  show Ev _ _ _ _ 54 114 _ _ [(2, 106)] []
  refine ev_aload_n dX8_init_54 rfl (by decide) ?_
  show Ev _ _ _ _ 55 114 _ _ [(2, 106)] [(2, (106 : Int))]
  refine ev_bipush dX8_init_55 (by decide) (by decide) ?_
  show Ev _ _ _ _ 57 114 _ _ [(2, 106)] [(0, (20 : Int)), (2, (106 : Int))]
  refine ev_newi (N := 20) dX8_init_57 wyint sp114 (by decide) (by decide) ?_
  show Ev _ _ _ _ 59 115 _ _ [(2, 106)] [(2, (114 : Int)), (2, (106 : Int))]
  refine ev_putrF (j := 7) dX8_init_59 cf_X8 wf_X8_35 sp106 (by decide) (by decide) rfl rfl rfl rfl (fun z => absurd z (by decide +kernel)) ?_
  show Ev _ _ _ _ 62 115 _ _ [(2, 106)] []
  refine ev_aload_n dX8_init_62 rfl (by decide) ?_
  show Ev _ _ _ _ 63 115 _ _ [(2, 106)] [(2, (106 : Int))]
  refine ev_bipush dX8_init_63 (by decide) (by decide) ?_
  show Ev _ _ _ _ 65 115 _ _ [(2, 106)] [(0, (20 : Int)), (2, (106 : Int))]
  refine ev_newi (N := 20) dX8_init_65 wyint sp115 (by decide) (by decide) ?_
  show Ev _ _ _ _ 67 116 _ _ [(2, 106)] [(2, (115 : Int)), (2, (106 : Int))]
  refine ev_putrF (j := 8) dX8_init_67 cf_X8 wf_X8_38 sp106 (by decide) (by decide) rfl rfl rfl rfl (fun z => absurd z (by decide +kernel)) ?_
  show Ev _ _ _ _ 70 116 _ _ [(2, 106)] []
  exact ev_vret dX8_init_70 rfl rfl
def rc_X8_init_117 (ρ : Mem) : Mem := (mup (mup (mup (mup (mup (mup (mup (mup (mup ρ 116 0 117) 116 1 118) 116 2 119) 116 3 120) 116 4 121) 116 5 122) 116 6 123) 116 7 124) 116 8 125)
def sc_X8_init_117 (σ : Mem) : Mem := σ
set_option maxHeartbeats 4000000 in
set_option maxRecDepth 20000 in
theorem c_X8_init_117 (ρ σ : Mem) : Ms yX8_init M_X8_init 117 126 [(2, 116)] ρ σ (none, rc_X8_init_117 ρ, sc_X8_init_117 σ) := by
  refine Ms.of 0 (by decide +kernel) rfl (fun _ => rfl) (fun _ _ _ => trivial) rfl rfl ?_
  show Ev M_X8_init 117 126 _ 0 117 ρ σ [(2, 116)] []
  show Ev _ _ _ _ 0 117 _ _ [(2, 116)] []
  refine ev_aload_n dX8_init_0 rfl (by decide) ?_
  show Ev _ _ _ _ 1 117 _ _ [(2, 116)] [(2, (116 : Int))]
  refine ev_oinit dX8_init_1 wo_X8_3 wo_i wo_c (by decide) (by decide) (by decide) ?_
  show Ev _ _ _ _ 4 117 _ _ [(2, 116)] []
  refine ev_aload_n dX8_init_4 rfl (by decide) ?_
  show Ev _ _ _ _ 5 117 _ _ [(2, 116)] [(2, (116 : Int))]
  refine ev_iconst dX8_init_5 (by decide) ?_
  show Ev _ _ _ _ 6 117 _ _ [(2, 116)] [(0, (5 : Int)), (2, (116 : Int))]
  refine ev_newz (N := 5) dX8_init_6 wyboolean sp117 (by decide) (by decide) ?_
  show Ev _ _ _ _ 8 118 _ _ [(2, 116)] [(2, (117 : Int)), (2, (116 : Int))]
  refine ev_putrF (j := 0) dX8_init_8 cf_X8 wf_X8_9 sp116 (by decide) (by decide) rfl rfl rfl rfl (fun z => absurd z (by decide +kernel)) ?_
  show Ev _ _ _ _ 11 118 _ _ [(2, 116)] []
  refine ev_aload_n dX8_init_11 rfl (by decide) ?_
  show Ev _ _ _ _ 12 118 _ _ [(2, 116)] [(2, (116 : Int))]
  refine ev_iconst dX8_init_12 (by decide) ?_
  show Ev _ _ _ _ 13 118 _ _ [(2, 116)] [(0, (5 : Int)), (2, (116 : Int))]
  refine ev_newi (N := 5) dX8_init_13 wyint sp118 (by decide) (by decide) ?_
  show Ev _ _ _ _ 15 119 _ _ [(2, 116)] [(2, (118 : Int)), (2, (116 : Int))]
  refine ev_putrF (j := 1) dX8_init_15 cf_X8 wf_X8_15 sp116 (by decide) (by decide) rfl rfl rfl rfl (fun z => absurd z (by decide +kernel)) ?_
  show Ev _ _ _ _ 18 119 _ _ [(2, 116)] []
  refine ev_aload_n dX8_init_18 rfl (by decide) ?_
  show Ev _ _ _ _ 19 119 _ _ [(2, 116)] [(2, (116 : Int))]
  refine ev_iconst dX8_init_19 (by decide) ?_
  show Ev _ _ _ _ 20 119 _ _ [(2, 116)] [(0, (5 : Int)), (2, (116 : Int))]
  refine ev_newi (N := 5) dX8_init_20 wyint sp119 (by decide) (by decide) ?_
  show Ev _ _ _ _ 22 120 _ _ [(2, 116)] [(2, (119 : Int)), (2, (116 : Int))]
  refine ev_putrF (j := 2) dX8_init_22 cf_X8 wf_X8_19 sp116 (by decide) (by decide) rfl rfl rfl rfl (fun z => absurd z (by decide +kernel)) ?_
  show Ev _ _ _ _ 25 120 _ _ [(2, 116)] []
  refine ev_aload_n dX8_init_25 rfl (by decide) ?_
  show Ev _ _ _ _ 26 120 _ _ [(2, 116)] [(2, (116 : Int))]
  refine ev_iconst dX8_init_26 (by decide) ?_
  show Ev _ _ _ _ 27 120 _ _ [(2, 116)] [(0, (5 : Int)), (2, (116 : Int))]
  refine ev_newi (N := 5) dX8_init_27 wyint sp120 (by decide) (by decide) ?_
  show Ev _ _ _ _ 29 121 _ _ [(2, 116)] [(2, (120 : Int)), (2, (116 : Int))]
  refine ev_putrF (j := 3) dX8_init_29 cf_X8 wf_X8_22 sp116 (by decide) (by decide) rfl rfl rfl rfl (fun z => absurd z (by decide +kernel)) ?_
  show Ev _ _ _ _ 32 121 _ _ [(2, 116)] []
  refine ev_aload_n dX8_init_32 rfl (by decide) ?_
  show Ev _ _ _ _ 33 121 _ _ [(2, 116)] [(2, (116 : Int))]
  refine ev_iconst dX8_init_33 (by decide) ?_
  show Ev _ _ _ _ 34 121 _ _ [(2, 116)] [(0, (5 : Int)), (2, (116 : Int))]
  refine ev_newi (N := 5) dX8_init_34 wyint sp121 (by decide) (by decide) ?_
  show Ev _ _ _ _ 36 122 _ _ [(2, 116)] [(2, (121 : Int)), (2, (116 : Int))]
  refine ev_putrF (j := 4) dX8_init_36 cf_X8 wf_X8_25 sp116 (by decide) (by decide) rfl rfl rfl rfl (fun z => absurd z (by decide +kernel)) ?_
  show Ev _ _ _ _ 39 122 _ _ [(2, 116)] []
  refine ev_aload_n dX8_init_39 rfl (by decide) ?_
  show Ev _ _ _ _ 40 122 _ _ [(2, 116)] [(2, (116 : Int))]
  refine ev_iconst dX8_init_40 (by decide) ?_
  show Ev _ _ _ _ 41 122 _ _ [(2, 116)] [(0, (5 : Int)), (2, (116 : Int))]
  refine ev_newl (N := 5) dX8_init_41 wylong sp122 (by decide) (by decide) ?_
  show Ev _ _ _ _ 43 123 _ _ [(2, 116)] [(2, (122 : Int)), (2, (116 : Int))]
  refine ev_putrF (j := 5) dX8_init_43 cf_X8 wf_X8_28 sp116 (by decide) (by decide) rfl rfl rfl rfl (fun z => absurd z (by decide +kernel)) ?_
  show Ev _ _ _ _ 46 123 _ _ [(2, 116)] []
  refine ev_aload_n dX8_init_46 rfl (by decide) ?_
  show Ev _ _ _ _ 47 123 _ _ [(2, 116)] [(2, (116 : Int))]
  refine ev_bipush dX8_init_47 (by decide) (by decide) ?_
  show Ev _ _ _ _ 49 123 _ _ [(2, 116)] [(0, (20 : Int)), (2, (116 : Int))]
  refine ev_newi (N := 20) dX8_init_49 wyint sp123 (by decide) (by decide) ?_
  show Ev _ _ _ _ 51 124 _ _ [(2, 116)] [(2, (123 : Int)), (2, (116 : Int))]
  refine ev_putrF (j := 6) dX8_init_51 cf_X8 wf_X8_32 sp116 (by decide) (by decide) rfl rfl rfl rfl (fun z => absurd z (by decide +kernel)) ?_
  show Ev _ _ _ _ 54 124 _ _ [(2, 116)] []
  refine ev_aload_n dX8_init_54 rfl (by decide) ?_
  show Ev _ _ _ _ 55 124 _ _ [(2, 116)] [(2, (116 : Int))]
  refine ev_bipush dX8_init_55 (by decide) (by decide) ?_
  show Ev _ _ _ _ 57 124 _ _ [(2, 116)] [(0, (20 : Int)), (2, (116 : Int))]
  refine ev_newi (N := 20) dX8_init_57 wyint sp124 (by decide) (by decide) ?_
  show Ev _ _ _ _ 59 125 _ _ [(2, 116)] [(2, (124 : Int)), (2, (116 : Int))]
  refine ev_putrF (j := 7) dX8_init_59 cf_X8 wf_X8_35 sp116 (by decide) (by decide) rfl rfl rfl rfl (fun z => absurd z (by decide +kernel)) ?_
  show Ev _ _ _ _ 62 125 _ _ [(2, 116)] []
  refine ev_aload_n dX8_init_62 rfl (by decide) ?_
  show Ev _ _ _ _ 63 125 _ _ [(2, 116)] [(2, (116 : Int))]
  refine ev_bipush dX8_init_63 (by decide) (by decide) ?_
  show Ev _ _ _ _ 65 125 _ _ [(2, 116)] [(0, (20 : Int)), (2, (116 : Int))]
  refine ev_newi (N := 20) dX8_init_65 wyint sp125 (by decide) (by decide) ?_
  show Ev _ _ _ _ 67 126 _ _ [(2, 116)] [(2, (125 : Int)), (2, (116 : Int))]
  refine ev_putrF (j := 8) dX8_init_67 cf_X8 wf_X8_38 sp116 (by decide) (by decide) rfl rfl rfl rfl (fun z => absurd z (by decide +kernel)) ?_
  show Ev _ _ _ _ 70 126 _ _ [(2, 116)] []
  exact ev_vret dX8_init_70 rfl rfl
def rc_X8_init_127 (ρ : Mem) : Mem := (mup (mup (mup (mup (mup (mup (mup (mup (mup ρ 126 0 127) 126 1 128) 126 2 129) 126 3 130) 126 4 131) 126 5 132) 126 6 133) 126 7 134) 126 8 135)
def sc_X8_init_127 (σ : Mem) : Mem := σ
set_option maxHeartbeats 4000000 in
set_option maxRecDepth 20000 in
theorem c_X8_init_127 (ρ σ : Mem) : Ms yX8_init M_X8_init 127 136 [(2, 126)] ρ σ (none, rc_X8_init_127 ρ, sc_X8_init_127 σ) := by
  refine Ms.of 0 (by decide +kernel) rfl (fun _ => rfl) (fun _ _ _ => trivial) rfl rfl ?_
  show Ev M_X8_init 127 136 _ 0 127 ρ σ [(2, 126)] []
  show Ev _ _ _ _ 0 127 _ _ [(2, 126)] []
  refine ev_aload_n dX8_init_0 rfl (by decide) ?_
  show Ev _ _ _ _ 1 127 _ _ [(2, 126)] [(2, (126 : Int))]
  refine ev_oinit dX8_init_1 wo_X8_3 wo_i wo_c (by decide) (by decide) (by decide) ?_
  show Ev _ _ _ _ 4 127 _ _ [(2, 126)] []
  refine ev_aload_n dX8_init_4 rfl (by decide) ?_
  show Ev _ _ _ _ 5 127 _ _ [(2, 126)] [(2, (126 : Int))]
  refine ev_iconst dX8_init_5 (by decide) ?_
  show Ev _ _ _ _ 6 127 _ _ [(2, 126)] [(0, (5 : Int)), (2, (126 : Int))]
  refine ev_newz (N := 5) dX8_init_6 wyboolean sp127 (by decide) (by decide) ?_
  show Ev _ _ _ _ 8 128 _ _ [(2, 126)] [(2, (127 : Int)), (2, (126 : Int))]
  refine ev_putrF (j := 0) dX8_init_8 cf_X8 wf_X8_9 sp126 (by decide) (by decide) rfl rfl rfl rfl (fun z => absurd z (by decide +kernel)) ?_
  show Ev _ _ _ _ 11 128 _ _ [(2, 126)] []
  refine ev_aload_n dX8_init_11 rfl (by decide) ?_
  show Ev _ _ _ _ 12 128 _ _ [(2, 126)] [(2, (126 : Int))]
  refine ev_iconst dX8_init_12 (by decide) ?_
  show Ev _ _ _ _ 13 128 _ _ [(2, 126)] [(0, (5 : Int)), (2, (126 : Int))]
  refine ev_newi (N := 5) dX8_init_13 wyint sp128 (by decide) (by decide) ?_
  show Ev _ _ _ _ 15 129 _ _ [(2, 126)] [(2, (128 : Int)), (2, (126 : Int))]
  refine ev_putrF (j := 1) dX8_init_15 cf_X8 wf_X8_15 sp126 (by decide) (by decide) rfl rfl rfl rfl (fun z => absurd z (by decide +kernel)) ?_
  show Ev _ _ _ _ 18 129 _ _ [(2, 126)] []
  refine ev_aload_n dX8_init_18 rfl (by decide) ?_
  show Ev _ _ _ _ 19 129 _ _ [(2, 126)] [(2, (126 : Int))]
  refine ev_iconst dX8_init_19 (by decide) ?_
  show Ev _ _ _ _ 20 129 _ _ [(2, 126)] [(0, (5 : Int)), (2, (126 : Int))]
  refine ev_newi (N := 5) dX8_init_20 wyint sp129 (by decide) (by decide) ?_
  show Ev _ _ _ _ 22 130 _ _ [(2, 126)] [(2, (129 : Int)), (2, (126 : Int))]
  refine ev_putrF (j := 2) dX8_init_22 cf_X8 wf_X8_19 sp126 (by decide) (by decide) rfl rfl rfl rfl (fun z => absurd z (by decide +kernel)) ?_
  show Ev _ _ _ _ 25 130 _ _ [(2, 126)] []
  refine ev_aload_n dX8_init_25 rfl (by decide) ?_
  show Ev _ _ _ _ 26 130 _ _ [(2, 126)] [(2, (126 : Int))]
  refine ev_iconst dX8_init_26 (by decide) ?_
  show Ev _ _ _ _ 27 130 _ _ [(2, 126)] [(0, (5 : Int)), (2, (126 : Int))]
  refine ev_newi (N := 5) dX8_init_27 wyint sp130 (by decide) (by decide) ?_
  show Ev _ _ _ _ 29 131 _ _ [(2, 126)] [(2, (130 : Int)), (2, (126 : Int))]
  refine ev_putrF (j := 3) dX8_init_29 cf_X8 wf_X8_22 sp126 (by decide) (by decide) rfl rfl rfl rfl (fun z => absurd z (by decide +kernel)) ?_
  show Ev _ _ _ _ 32 131 _ _ [(2, 126)] []
  refine ev_aload_n dX8_init_32 rfl (by decide) ?_
  show Ev _ _ _ _ 33 131 _ _ [(2, 126)] [(2, (126 : Int))]
  refine ev_iconst dX8_init_33 (by decide) ?_
  show Ev _ _ _ _ 34 131 _ _ [(2, 126)] [(0, (5 : Int)), (2, (126 : Int))]
  refine ev_newi (N := 5) dX8_init_34 wyint sp131 (by decide) (by decide) ?_
  show Ev _ _ _ _ 36 132 _ _ [(2, 126)] [(2, (131 : Int)), (2, (126 : Int))]
  refine ev_putrF (j := 4) dX8_init_36 cf_X8 wf_X8_25 sp126 (by decide) (by decide) rfl rfl rfl rfl (fun z => absurd z (by decide +kernel)) ?_
  show Ev _ _ _ _ 39 132 _ _ [(2, 126)] []
  refine ev_aload_n dX8_init_39 rfl (by decide) ?_
  show Ev _ _ _ _ 40 132 _ _ [(2, 126)] [(2, (126 : Int))]
  refine ev_iconst dX8_init_40 (by decide) ?_
  show Ev _ _ _ _ 41 132 _ _ [(2, 126)] [(0, (5 : Int)), (2, (126 : Int))]
  refine ev_newl (N := 5) dX8_init_41 wylong sp132 (by decide) (by decide) ?_
  show Ev _ _ _ _ 43 133 _ _ [(2, 126)] [(2, (132 : Int)), (2, (126 : Int))]
  refine ev_putrF (j := 5) dX8_init_43 cf_X8 wf_X8_28 sp126 (by decide) (by decide) rfl rfl rfl rfl (fun z => absurd z (by decide +kernel)) ?_
  show Ev _ _ _ _ 46 133 _ _ [(2, 126)] []
  refine ev_aload_n dX8_init_46 rfl (by decide) ?_
  show Ev _ _ _ _ 47 133 _ _ [(2, 126)] [(2, (126 : Int))]
  refine ev_bipush dX8_init_47 (by decide) (by decide) ?_
  show Ev _ _ _ _ 49 133 _ _ [(2, 126)] [(0, (20 : Int)), (2, (126 : Int))]
  refine ev_newi (N := 20) dX8_init_49 wyint sp133 (by decide) (by decide) ?_
  show Ev _ _ _ _ 51 134 _ _ [(2, 126)] [(2, (133 : Int)), (2, (126 : Int))]
  refine ev_putrF (j := 6) dX8_init_51 cf_X8 wf_X8_32 sp126 (by decide) (by decide) rfl rfl rfl rfl (fun z => absurd z (by decide +kernel)) ?_
  show Ev _ _ _ _ 54 134 _ _ [(2, 126)] []
  refine ev_aload_n dX8_init_54 rfl (by decide) ?_
  show Ev _ _ _ _ 55 134 _ _ [(2, 126)] [(2, (126 : Int))]
  refine ev_bipush dX8_init_55 (by decide) (by decide) ?_
  show Ev _ _ _ _ 57 134 _ _ [(2, 126)] [(0, (20 : Int)), (2, (126 : Int))]
  refine ev_newi (N := 20) dX8_init_57 wyint sp134 (by decide) (by decide) ?_
  show Ev _ _ _ _ 59 135 _ _ [(2, 126)] [(2, (134 : Int)), (2, (126 : Int))]
  refine ev_putrF (j := 7) dX8_init_59 cf_X8 wf_X8_35 sp126 (by decide) (by decide) rfl rfl rfl rfl (fun z => absurd z (by decide +kernel)) ?_
  show Ev _ _ _ _ 62 135 _ _ [(2, 126)] []
  refine ev_aload_n dX8_init_62 rfl (by decide) ?_
  show Ev _ _ _ _ 63 135 _ _ [(2, 126)] [(2, (126 : Int))]
  refine ev_bipush dX8_init_63 (by decide) (by decide) ?_
  show Ev _ _ _ _ 65 135 _ _ [(2, 126)] [(0, (20 : Int)), (2, (126 : Int))]
  refine ev_newi (N := 20) dX8_init_65 wyint sp135 (by decide) (by decide) ?_
  show Ev _ _ _ _ 67 136 _ _ [(2, 126)] [(2, (135 : Int)), (2, (126 : Int))]
  refine ev_putrF (j := 8) dX8_init_67 cf_X8 wf_X8_38 sp126 (by decide) (by decide) rfl rfl rfl rfl (fun z => absurd z (by decide +kernel)) ?_
  show Ev _ _ _ _ 70 136 _ _ [(2, 126)] []
  exact ev_vret dX8_init_70 rfl rfl
def rc_X8_init_137 (ρ : Mem) : Mem := (mup (mup (mup (mup (mup (mup (mup (mup (mup ρ 136 0 137) 136 1 138) 136 2 139) 136 3 140) 136 4 141) 136 5 142) 136 6 143) 136 7 144) 136 8 145)
def sc_X8_init_137 (σ : Mem) : Mem := σ
set_option maxHeartbeats 4000000 in
set_option maxRecDepth 20000 in
theorem c_X8_init_137 (ρ σ : Mem) : Ms yX8_init M_X8_init 137 146 [(2, 136)] ρ σ (none, rc_X8_init_137 ρ, sc_X8_init_137 σ) := by
  refine Ms.of 0 (by decide +kernel) rfl (fun _ => rfl) (fun _ _ _ => trivial) rfl rfl ?_
  show Ev M_X8_init 137 146 _ 0 137 ρ σ [(2, 136)] []
  show Ev _ _ _ _ 0 137 _ _ [(2, 136)] []
  refine ev_aload_n dX8_init_0 rfl (by decide) ?_
  show Ev _ _ _ _ 1 137 _ _ [(2, 136)] [(2, (136 : Int))]
  refine ev_oinit dX8_init_1 wo_X8_3 wo_i wo_c (by decide) (by decide) (by decide) ?_
  show Ev _ _ _ _ 4 137 _ _ [(2, 136)] []
  refine ev_aload_n dX8_init_4 rfl (by decide) ?_
  show Ev _ _ _ _ 5 137 _ _ [(2, 136)] [(2, (136 : Int))]
  refine ev_iconst dX8_init_5 (by decide) ?_
  show Ev _ _ _ _ 6 137 _ _ [(2, 136)] [(0, (5 : Int)), (2, (136 : Int))]
  refine ev_newz (N := 5) dX8_init_6 wyboolean sp137 (by decide) (by decide) ?_
  show Ev _ _ _ _ 8 138 _ _ [(2, 136)] [(2, (137 : Int)), (2, (136 : Int))]
  refine ev_putrF (j := 0) dX8_init_8 cf_X8 wf_X8_9 sp136 (by decide) (by decide) rfl rfl rfl rfl (fun z => absurd z (by decide +kernel)) ?_
  show Ev _ _ _ _ 11 138 _ _ [(2, 136)] []
  refine ev_aload_n dX8_init_11 rfl (by decide) ?_
  show Ev _ _ _ _ 12 138 _ _ [(2, 136)] [(2, (136 : Int))]
  refine ev_iconst dX8_init_12 (by decide) ?_
  show Ev _ _ _ _ 13 138 _ _ [(2, 136)] [(0, (5 : Int)), (2, (136 : Int))]
  refine ev_newi (N := 5) dX8_init_13 wyint sp138 (by decide) (by decide) ?_
  show Ev _ _ _ _ 15 139 _ _ [(2, 136)] [(2, (138 : Int)), (2, (136 : Int))]
  refine ev_putrF (j := 1) dX8_init_15 cf_X8 wf_X8_15 sp136 (by decide) (by decide) rfl rfl rfl rfl (fun z => absurd z (by decide +kernel)) ?_
  show Ev _ _ _ _ 18 139 _ _ [(2, 136)] []
  refine ev_aload_n dX8_init_18 rfl (by decide) ?_
  show Ev _ _ _ _ 19 139 _ _ [(2, 136)] [(2, (136 : Int))]
  refine ev_iconst dX8_init_19 (by decide) ?_
  show Ev _ _ _ _ 20 139 _ _ [(2, 136)] [(0, (5 : Int)), (2, (136 : Int))]
  refine ev_newi (N := 5) dX8_init_20 wyint sp139 (by decide) (by decide) ?_
  show Ev _ _ _ _ 22 140 _ _ [(2, 136)] [(2, (139 : Int)), (2, (136 : Int))]
  refine ev_putrF (j := 2) dX8_init_22 cf_X8 wf_X8_19 sp136 (by decide) (by decide) rfl rfl rfl rfl (fun z => absurd z (by decide +kernel)) ?_
  show Ev _ _ _ _ 25 140 _ _ [(2, 136)] []
  refine ev_aload_n dX8_init_25 rfl (by decide) ?_
  show Ev _ _ _ _ 26 140 _ _ [(2, 136)] [(2, (136 : Int))]
  refine ev_iconst dX8_init_26 (by decide) ?_
  show Ev _ _ _ _ 27 140 _ _ [(2, 136)] [(0, (5 : Int)), (2, (136 : Int))]
  refine ev_newi (N := 5) dX8_init_27 wyint sp140 (by decide) (by decide) ?_
  show Ev _ _ _ _ 29 141 _ _ [(2, 136)] [(2, (140 : Int)), (2, (136 : Int))]
  refine ev_putrF (j := 3) dX8_init_29 cf_X8 wf_X8_22 sp136 (by decide) (by decide) rfl rfl rfl rfl (fun z => absurd z (by decide +kernel)) ?_
  show Ev _ _ _ _ 32 141 _ _ [(2, 136)] []
  refine ev_aload_n dX8_init_32 rfl (by decide) ?_
  show Ev _ _ _ _ 33 141 _ _ [(2, 136)] [(2, (136 : Int))]
  refine ev_iconst dX8_init_33 (by decide) ?_
  show Ev _ _ _ _ 34 141 _ _ [(2, 136)] [(0, (5 : Int)), (2, (136 : Int))]
  refine ev_newi (N := 5) dX8_init_34 wyint sp141 (by decide) (by decide) ?_
  show Ev _ _ _ _ 36 142 _ _ [(2, 136)] [(2, (141 : Int)), (2, (136 : Int))]
  refine ev_putrF (j := 4) dX8_init_36 cf_X8 wf_X8_25 sp136 (by decide) (by decide) rfl rfl rfl rfl (fun z => absurd z (by decide +kernel)) ?_
  show Ev _ _ _ _ 39 142 _ _ [(2, 136)] []
  refine ev_aload_n dX8_init_39 rfl (by decide) ?_
  show Ev _ _ _ _ 40 142 _ _ [(2, 136)] [(2, (136 : Int))]
  refine ev_iconst dX8_init_40 (by decide) ?_
  show Ev _ _ _ _ 41 142 _ _ [(2, 136)] [(0, (5 : Int)), (2, (136 : Int))]
  refine ev_newl (N := 5) dX8_init_41 wylong sp142 (by decide) (by decide) ?_
  show Ev _ _ _ _ 43 143 _ _ [(2, 136)] [(2, (142 : Int)), (2, (136 : Int))]
  refine ev_putrF (j := 5) dX8_init_43 cf_X8 wf_X8_28 sp136 (by decide) (by decide) rfl rfl rfl rfl (fun z => absurd z (by decide +kernel)) ?_
  show Ev _ _ _ _ 46 143 _ _ [(2, 136)] []
  refine ev_aload_n dX8_init_46 rfl (by decide) ?_
  show Ev _ _ _ _ 47 143 _ _ [(2, 136)] [(2, (136 : Int))]
  refine ev_bipush dX8_init_47 (by decide) (by decide) ?_
  show Ev _ _ _ _ 49 143 _ _ [(2, 136)] [(0, (20 : Int)), (2, (136 : Int))]
  refine ev_newi (N := 20) dX8_init_49 wyint sp143 (by decide) (by decide) ?_
  show Ev _ _ _ _ 51 144 _ _ [(2, 136)] [(2, (143 : Int)), (2, (136 : Int))]
  refine ev_putrF (j := 6) dX8_init_51 cf_X8 wf_X8_32 sp136 (by decide) (by decide) rfl rfl rfl rfl (fun z => absurd z (by decide +kernel)) ?_
  show Ev _ _ _ _ 54 144 _ _ [(2, 136)] []
  refine ev_aload_n dX8_init_54 rfl (by decide) ?_
  show Ev _ _ _ _ 55 144 _ _ [(2, 136)] [(2, (136 : Int))]
  refine ev_bipush dX8_init_55 (by decide) (by decide) ?_
  show Ev _ _ _ _ 57 144 _ _ [(2, 136)] [(0, (20 : Int)), (2, (136 : Int))]
  refine ev_newi (N := 20) dX8_init_57 wyint sp144 (by decide) (by decide) ?_
  show Ev _ _ _ _ 59 145 _ _ [(2, 136)] [(2, (144 : Int)), (2, (136 : Int))]
  refine ev_putrF (j := 7) dX8_init_59 cf_X8 wf_X8_35 sp136 (by decide) (by decide) rfl rfl rfl rfl (fun z => absurd z (by decide +kernel)) ?_
  show Ev _ _ _ _ 62 145 _ _ [(2, 136)] []
  refine ev_aload_n dX8_init_62 rfl (by decide) ?_
  show Ev _ _ _ _ 63 145 _ _ [(2, 136)] [(2, (136 : Int))]
  refine ev_bipush dX8_init_63 (by decide) (by decide) ?_
  show Ev _ _ _ _ 65 145 _ _ [(2, 136)] [(0, (20 : Int)), (2, (136 : Int))]
  refine ev_newi (N := 20) dX8_init_65 wyint sp145 (by decide) (by decide) ?_
  show Ev _ _ _ _ 67 146 _ _ [(2, 136)] [(2, (145 : Int)), (2, (136 : Int))]
  refine ev_putrF (j := 8) dX8_init_67 cf_X8 wf_X8_38 sp136 (by decide) (by decide) rfl rfl rfl rfl (fun z => absurd z (by decide +kernel)) ?_
  show Ev _ _ _ _ 70 146 _ _ [(2, 136)] []
  exact ev_vret dX8_init_70 rfl rfl
def rc_X9_init_44 (ρ : Mem) : Mem := (mup (rc_X8_init_137 (mup (rc_X8_init_127 (mup (rc_X8_init_117 (mup (rc_X8_init_107 (mup (rc_X8_init_97 (mup (rc_X8_init_87 (mup (rc_X8_init_77 (mup (rc_X8_init_67 (mup (rc_X8_init_57 (mup (rc_X8_init_47 (mup (mup (mup (mup ρ 43 2 44) 43 3 45) 43 0 1) 43 1 35)) 44 0 46)) 44 1 56)) 44 2 66)) 44 3 76)) 44 4 86)) 44 5 96)) 44 6 106)) 44 7 116)) 44 8 126)) 44 9 136)
def sc_X9_init_44 (σ : Mem) : Mem := (sc_X8_init_137 (sc_X8_init_127 (sc_X8_init_117 (sc_X8_init_107 (sc_X8_init_97 (sc_X8_init_87 (sc_X8_init_77 (sc_X8_init_67 (sc_X8_init_57 (sc_X8_init_47 (mup σ 43 4 (1))))))))))))
set_option maxHeartbeats 4000000 in
set_option maxRecDepth 20000 in
theorem c_X9_init_44 (ρ σ : Mem) : Ms yX9_init M_X9_init 44 146 [(2, 43), (2, 1), (2, 35)] ρ σ (none, rc_X9_init_44 ρ, sc_X9_init_44 σ) := by
  refine Ms.of 1 (by decide +kernel) rfl (fun _ => rfl) (fun _ _ _ => trivial) rfl rfl ?_
  show Ev M_X9_init 44 146 _ 0 44 ρ σ [(2, 43), (2, 1), (2, 35), (9, 0)] []
  show Ev _ _ _ _ 0 44 _ _ [(2, 43), (2, 1), (2, 35), (9, 0)] []
  refine ev_aload_n dX9_init_0 rfl (by decide) ?_
  show Ev _ _ _ _ 1 44 _ _ [(2, 43), (2, 1), (2, 35), (9, 0)] [(2, (43 : Int))]
  refine ev_oinit dX9_init_1 wo_X9_3 wo_i wo_c (by decide) (by decide) (by decide) ?_
  show Ev _ _ _ _ 4 44 _ _ [(2, 43), (2, 1), (2, 35), (9, 0)] []
  refine ev_aload_n dX9_init_4 rfl (by decide) ?_
  show Ev _ _ _ _ 5 44 _ _ [(2, 43), (2, 1), (2, 35), (9, 0)] [(2, (43 : Int))]
  refine ev_bipush dX9_init_5 (by decide) (by decide) ?_
  show Ev _ _ _ _ 7 44 _ _ [(2, 43), (2, 1), (2, 35), (9, 0)] [(0, (10 : Int)), (2, (43 : Int))]
  refine ev_newq (N := 10) dX9_init_7 wk_X9_9 sp44 (by decide) (by decide) ?_
  show Ev _ _ _ _ 10 45 _ _ [(2, 43), (2, 1), (2, 35), (9, 0)] [(2, (44 : Int)), (2, (43 : Int))]
  refine ev_putrF (j := 2) dX9_init_10 cf_X9 wf_X9_11 sp43 (by decide) (by decide) rfl rfl rfl rfl (fun z => absurd z (by decide +kernel)) ?_
  show Ev _ _ _ _ 13 45 _ _ [(2, 43), (2, 1), (2, 35), (9, 0)] []
  refine ev_aload_n dX9_init_13 rfl (by decide) ?_
  show Ev _ _ _ _ 14 45 _ _ [(2, 43), (2, 1), (2, 35), (9, 0)] [(2, (43 : Int))]
  refine ev_bipush dX9_init_14 (by decide) (by decide) ?_
  show Ev _ _ _ _ 16 45 _ _ [(2, 43), (2, 1), (2, 35), (9, 0)] [(0, (10 : Int)), (2, (43 : Int))]
  refine ev_newz (N := 10) dX9_init_16 wyboolean sp45 (by decide) (by decide) ?_
  show Ev _ _ _ _ 18 46 _ _ [(2, 43), (2, 1), (2, 35), (9, 0)] [(2, (45 : Int)), (2, (43 : Int))]
  refine ev_putrF (j := 3) dX9_init_18 cf_X9 wf_X9_17 sp43 (by decide) (by decide) rfl rfl rfl rfl (fun z => absurd z (by decide +kernel)) ?_
  show Ev _ _ _ _ 21 46 _ _ [(2, 43), (2, 1), (2, 35), (9, 0)] []
  refine ev_aload_n dX9_init_21 rfl (by decide) ?_
  show Ev _ _ _ _ 22 46 _ _ [(2, 43), (2, 1), (2, 35), (9, 0)] [(2, (43 : Int))]
  refine ev_iconst dX9_init_22 (by decide) ?_
  show Ev _ _ _ _ 23 46 _ _ [(2, 43), (2, 1), (2, 35), (9, 0)] [(0, (1 : Int)), (2, (43 : Int))]
  refine ev_putf (j := 4) (t := 0) dX9_init_23 cf_X9 wf_X9_21 sp43 (by decide) (by decide) rfl (by decide) (by decide) rfl (fun z => absurd z (by decide +kernel)) ?_
  show Ev _ _ _ _ 26 46 _ _ [(2, 43), (2, 1), (2, 35), (9, 0)] []
  refine ev_aload_n dX9_init_26 rfl (by decide) ?_
  show Ev _ _ _ _ 27 46 _ _ [(2, 43), (2, 1), (2, 35), (9, 0)] [(2, (43 : Int))]
  refine ev_aload_n dX9_init_27 rfl (by decide) ?_
  show Ev _ _ _ _ 28 46 _ _ [(2, 43), (2, 1), (2, 35), (9, 0)] [(2, (1 : Int)), (2, (43 : Int))]
  refine ev_putrF (j := 0) dX9_init_28 cf_X9 wf_X9_25 sp43 (by decide) (by decide) rfl rfl rfl rfl (fun z => absurd z (by decide +kernel)) ?_
  show Ev _ _ _ _ 31 46 _ _ [(2, 43), (2, 1), (2, 35), (9, 0)] []
  refine ev_aload_n dX9_init_31 rfl (by decide) ?_
  show Ev _ _ _ _ 32 46 _ _ [(2, 43), (2, 1), (2, 35), (9, 0)] [(2, (43 : Int))]
  refine ev_aload_n dX9_init_32 rfl (by decide) ?_
  show Ev _ _ _ _ 33 46 _ _ [(2, 43), (2, 1), (2, 35), (9, 0)] [(2, (35 : Int)), (2, (43 : Int))]
  refine ev_putrF (j := 1) dX9_init_33 cf_X9 wf_X9_29 sp43 (by decide) (by decide) rfl rfl rfl rfl (fun z => absurd z (by decide +kernel)) ?_
  show Ev _ _ _ _ 36 46 _ _ [(2, 43), (2, 1), (2, 35), (9, 0)] []
  refine ev_iconst dX9_init_36 (by decide) ?_
  show Ev _ _ _ _ 37 46 _ _ [(2, 43), (2, 1), (2, 35), (9, 0)] [(0, (0 : Int))]
  refine ev_istore_n dX9_init_37 rfl (by decide) ?_
  show Ev _ _ _ _ 38 46 _ _ [(2, 43), (2, 1), (2, 35), (0, 0)] []
  refine ev_iload_n dX9_init_38 rfl ?_
  show Ev _ _ _ _ 39 46 _ _ [(2, 43), (2, 1), (2, 35), (0, 0)] [(0, (0 : Int))]
  refine ev_bipush dX9_init_39 (by decide) (by decide) ?_
  show Ev _ _ _ _ 41 46 _ _ [(2, 43), (2, 1), (2, 35), (0, 0)] [(0, (10 : Int)), (0, (0 : Int))]
  refine ev_icmp_ge (tgt := 63) (X := some ()) (Y := some ()) (q := ()) dX9_init_41 rfl (by split <;> rfl) (fun z => absurd z (by decide)) (fun _ _ => ?_)
  show Ev _ _ _ _ 44 46 _ _ [(2, 43), (2, 1), (2, 35), (0, 0)] []
  refine ev_aload_n dX9_init_44 rfl (by decide) ?_
  show Ev _ _ _ _ 45 46 _ _ [(2, 43), (2, 1), (2, 35), (0, 0)] [(2, (43 : Int))]
  refine ev_getf (j := 2) (t := 2) (x := (44 : Int)) dX9_init_45 cf_X9 wf_X9_11 sp43 (by decide) (by decide) rfl (by decide) rfl ?_
  show Ev _ _ _ _ 48 46 _ _ [(2, 43), (2, 1), (2, 35), (0, 0)] [(2, (44 : Int))]
  refine ev_iload_n dX9_init_48 rfl ?_
  show Ev _ _ _ _ 49 46 _ _ [(2, 43), (2, 1), (2, 35), (0, 0)] [(0, (0 : Int)), (2, (44 : Int))]
  refine ev_new dX9_init_49 cf_X8 wk_X9_9 wi_X8 wz_X8 sp46 (by decide) ?_
  show Ev _ _ _ _ 52 47 _ _ [(2, 43), (2, 1), (2, 35), (0, 0)] [(2, (46 : Int)), (0, (0 : Int)), (2, (44 : Int))]
  refine ev_dup dX9_init_52 (show (2 : Nat) ≠ 1 by decide) ?_
  show Ev _ _ _ _ 53 47 _ _ [(2, 43), (2, 1), (2, 35), (0, 0)] [(2, (46 : Int)), (2, (46 : Int)), (0, (0 : Int)), (2, (44 : Int))]
  refine ev_invIN (k := 46) (av := []) (st := [(2, (46 : Int)), (0, (0 : Int)), (2, (44 : Int))]) dX9_init_53 ml_X9_33 mi_X8_init rfl (by decide) rfl rfl ⟨Nat.le_of_ble_eq_true rfl, Nat.le_of_ble_eq_true rfl⟩ (Nat.le_of_ble_eq_true rfl) (c_X8_init_47 _ _) ⟨by decide, by decide⟩ ?_
  show Ev _ _ _ _ 56 56 (rc_X8_init_47 _) (sc_X8_init_47 _) _ _
  show Ev _ _ _ _ 56 56 _ _ [(2, 43), (2, 1), (2, 35), (0, 0)] [(2, (46 : Int)), (0, (0 : Int)), (2, (44 : Int))]
  refine ev_aast (ci := 7) dX9_init_56 rfl sp44 (by decide) (by decide) sp46 (by decide) (by decide) ⟨by decide, by decide⟩ ?_
  show Ev _ _ _ _ 57 56 _ _ [(2, 43), (2, 1), (2, 35), (0, 0)] []
  refine ev_iinc dX9_init_57 rfl rfl ?_
  rw [show jadd (0 : Int) (1 : Int) = 1 by decide +kernel]
  show Ev _ _ _ _ 60 56 _ _ [(2, 43), (2, 1), (2, 35), (0, 1)] []
  refine ev_goto (tgt := 38) dX9_init_60 rfl ?_
  show Ev _ _ _ _ 38 56 _ _ [(2, 43), (2, 1), (2, 35), (0, 1)] []
  refine ev_iload_n dX9_init_38 rfl ?_
  show Ev _ _ _ _ 39 56 _ _ [(2, 43), (2, 1), (2, 35), (0, 1)] [(0, (1 : Int))]
  refine ev_bipush dX9_init_39 (by decide) (by decide) ?_
  show Ev _ _ _ _ 41 56 _ _ [(2, 43), (2, 1), (2, 35), (0, 1)] [(0, (10 : Int)), (0, (1 : Int))]
  refine ev_icmp_ge (tgt := 63) (X := some ()) (Y := some ()) (q := ()) dX9_init_41 rfl (by split <;> rfl) (fun z => absurd z (by decide)) (fun _ _ => ?_)
  show Ev _ _ _ _ 44 56 _ _ [(2, 43), (2, 1), (2, 35), (0, 1)] []
  refine ev_aload_n dX9_init_44 rfl (by decide) ?_
  show Ev _ _ _ _ 45 56 _ _ [(2, 43), (2, 1), (2, 35), (0, 1)] [(2, (43 : Int))]
  refine ev_getf (j := 2) (t := 2) (x := (44 : Int)) dX9_init_45 cf_X9 wf_X9_11 sp43 (by decide) (by decide) rfl (by decide) rfl ?_
  show Ev _ _ _ _ 48 56 _ _ [(2, 43), (2, 1), (2, 35), (0, 1)] [(2, (44 : Int))]
  refine ev_iload_n dX9_init_48 rfl ?_
  show Ev _ _ _ _ 49 56 _ _ [(2, 43), (2, 1), (2, 35), (0, 1)] [(0, (1 : Int)), (2, (44 : Int))]
  refine ev_new dX9_init_49 cf_X8 wk_X9_9 wi_X8 wz_X8 sp56 (by decide) ?_
  show Ev _ _ _ _ 52 57 _ _ [(2, 43), (2, 1), (2, 35), (0, 1)] [(2, (56 : Int)), (0, (1 : Int)), (2, (44 : Int))]
  refine ev_dup dX9_init_52 (show (2 : Nat) ≠ 1 by decide) ?_
  show Ev _ _ _ _ 53 57 _ _ [(2, 43), (2, 1), (2, 35), (0, 1)] [(2, (56 : Int)), (2, (56 : Int)), (0, (1 : Int)), (2, (44 : Int))]
  refine ev_invIN (k := 56) (av := []) (st := [(2, (56 : Int)), (0, (1 : Int)), (2, (44 : Int))]) dX9_init_53 ml_X9_33 mi_X8_init rfl (by decide) rfl rfl ⟨Nat.le_of_ble_eq_true rfl, Nat.le_of_ble_eq_true rfl⟩ (Nat.le_of_ble_eq_true rfl) (c_X8_init_57 _ _) ⟨by decide, by decide⟩ ?_
  show Ev _ _ _ _ 56 66 (rc_X8_init_57 _) (sc_X8_init_57 _) _ _
  show Ev _ _ _ _ 56 66 _ _ [(2, 43), (2, 1), (2, 35), (0, 1)] [(2, (56 : Int)), (0, (1 : Int)), (2, (44 : Int))]
  refine ev_aast (ci := 7) dX9_init_56 rfl sp44 (by decide) (by decide) sp56 (by decide) (by decide) ⟨by decide, by decide⟩ ?_
  show Ev _ _ _ _ 57 66 _ _ [(2, 43), (2, 1), (2, 35), (0, 1)] []
  refine ev_iinc dX9_init_57 rfl rfl ?_
  rw [show jadd (1 : Int) (1 : Int) = 2 by decide +kernel]
  show Ev _ _ _ _ 60 66 _ _ [(2, 43), (2, 1), (2, 35), (0, 2)] []
  refine ev_goto (tgt := 38) dX9_init_60 rfl ?_
  show Ev _ _ _ _ 38 66 _ _ [(2, 43), (2, 1), (2, 35), (0, 2)] []
  refine ev_iload_n dX9_init_38 rfl ?_
  show Ev _ _ _ _ 39 66 _ _ [(2, 43), (2, 1), (2, 35), (0, 2)] [(0, (2 : Int))]
  refine ev_bipush dX9_init_39 (by decide) (by decide) ?_
  show Ev _ _ _ _ 41 66 _ _ [(2, 43), (2, 1), (2, 35), (0, 2)] [(0, (10 : Int)), (0, (2 : Int))]
  refine ev_icmp_ge (tgt := 63) (X := some ()) (Y := some ()) (q := ()) dX9_init_41 rfl (by split <;> rfl) (fun z => absurd z (by decide)) (fun _ _ => ?_)
  show Ev _ _ _ _ 44 66 _ _ [(2, 43), (2, 1), (2, 35), (0, 2)] []
  refine ev_aload_n dX9_init_44 rfl (by decide) ?_
  show Ev _ _ _ _ 45 66 _ _ [(2, 43), (2, 1), (2, 35), (0, 2)] [(2, (43 : Int))]
  refine ev_getf (j := 2) (t := 2) (x := (44 : Int)) dX9_init_45 cf_X9 wf_X9_11 sp43 (by decide) (by decide) rfl (by decide) rfl ?_
  show Ev _ _ _ _ 48 66 _ _ [(2, 43), (2, 1), (2, 35), (0, 2)] [(2, (44 : Int))]
  refine ev_iload_n dX9_init_48 rfl ?_
  show Ev _ _ _ _ 49 66 _ _ [(2, 43), (2, 1), (2, 35), (0, 2)] [(0, (2 : Int)), (2, (44 : Int))]
  refine ev_new dX9_init_49 cf_X8 wk_X9_9 wi_X8 wz_X8 sp66 (by decide) ?_
  show Ev _ _ _ _ 52 67 _ _ [(2, 43), (2, 1), (2, 35), (0, 2)] [(2, (66 : Int)), (0, (2 : Int)), (2, (44 : Int))]
  refine ev_dup dX9_init_52 (show (2 : Nat) ≠ 1 by decide) ?_
  show Ev _ _ _ _ 53 67 _ _ [(2, 43), (2, 1), (2, 35), (0, 2)] [(2, (66 : Int)), (2, (66 : Int)), (0, (2 : Int)), (2, (44 : Int))]
  refine ev_invIN (k := 66) (av := []) (st := [(2, (66 : Int)), (0, (2 : Int)), (2, (44 : Int))]) dX9_init_53 ml_X9_33 mi_X8_init rfl (by decide) rfl rfl ⟨Nat.le_of_ble_eq_true rfl, Nat.le_of_ble_eq_true rfl⟩ (Nat.le_of_ble_eq_true rfl) (c_X8_init_67 _ _) ⟨by decide, by decide⟩ ?_
  show Ev _ _ _ _ 56 76 (rc_X8_init_67 _) (sc_X8_init_67 _) _ _
  show Ev _ _ _ _ 56 76 _ _ [(2, 43), (2, 1), (2, 35), (0, 2)] [(2, (66 : Int)), (0, (2 : Int)), (2, (44 : Int))]
  refine ev_aast (ci := 7) dX9_init_56 rfl sp44 (by decide) (by decide) sp66 (by decide) (by decide) ⟨by decide, by decide⟩ ?_
  show Ev _ _ _ _ 57 76 _ _ [(2, 43), (2, 1), (2, 35), (0, 2)] []
  refine ev_iinc dX9_init_57 rfl rfl ?_
  rw [show jadd (2 : Int) (1 : Int) = 3 by decide +kernel]
  show Ev _ _ _ _ 60 76 _ _ [(2, 43), (2, 1), (2, 35), (0, 3)] []
  refine ev_goto (tgt := 38) dX9_init_60 rfl ?_
  show Ev _ _ _ _ 38 76 _ _ [(2, 43), (2, 1), (2, 35), (0, 3)] []
  refine ev_iload_n dX9_init_38 rfl ?_
  show Ev _ _ _ _ 39 76 _ _ [(2, 43), (2, 1), (2, 35), (0, 3)] [(0, (3 : Int))]
  refine ev_bipush dX9_init_39 (by decide) (by decide) ?_
  show Ev _ _ _ _ 41 76 _ _ [(2, 43), (2, 1), (2, 35), (0, 3)] [(0, (10 : Int)), (0, (3 : Int))]
  refine ev_icmp_ge (tgt := 63) (X := some ()) (Y := some ()) (q := ()) dX9_init_41 rfl (by split <;> rfl) (fun z => absurd z (by decide)) (fun _ _ => ?_)
  show Ev _ _ _ _ 44 76 _ _ [(2, 43), (2, 1), (2, 35), (0, 3)] []
  refine ev_aload_n dX9_init_44 rfl (by decide) ?_
  show Ev _ _ _ _ 45 76 _ _ [(2, 43), (2, 1), (2, 35), (0, 3)] [(2, (43 : Int))]
  refine ev_getf (j := 2) (t := 2) (x := (44 : Int)) dX9_init_45 cf_X9 wf_X9_11 sp43 (by decide) (by decide) rfl (by decide) rfl ?_
  show Ev _ _ _ _ 48 76 _ _ [(2, 43), (2, 1), (2, 35), (0, 3)] [(2, (44 : Int))]
  refine ev_iload_n dX9_init_48 rfl ?_
  show Ev _ _ _ _ 49 76 _ _ [(2, 43), (2, 1), (2, 35), (0, 3)] [(0, (3 : Int)), (2, (44 : Int))]
  refine ev_new dX9_init_49 cf_X8 wk_X9_9 wi_X8 wz_X8 sp76 (by decide) ?_
  show Ev _ _ _ _ 52 77 _ _ [(2, 43), (2, 1), (2, 35), (0, 3)] [(2, (76 : Int)), (0, (3 : Int)), (2, (44 : Int))]
  refine ev_dup dX9_init_52 (show (2 : Nat) ≠ 1 by decide) ?_
  show Ev _ _ _ _ 53 77 _ _ [(2, 43), (2, 1), (2, 35), (0, 3)] [(2, (76 : Int)), (2, (76 : Int)), (0, (3 : Int)), (2, (44 : Int))]
  refine ev_invIN (k := 76) (av := []) (st := [(2, (76 : Int)), (0, (3 : Int)), (2, (44 : Int))]) dX9_init_53 ml_X9_33 mi_X8_init rfl (by decide) rfl rfl ⟨Nat.le_of_ble_eq_true rfl, Nat.le_of_ble_eq_true rfl⟩ (Nat.le_of_ble_eq_true rfl) (c_X8_init_77 _ _) ⟨by decide, by decide⟩ ?_
  show Ev _ _ _ _ 56 86 (rc_X8_init_77 _) (sc_X8_init_77 _) _ _
  show Ev _ _ _ _ 56 86 _ _ [(2, 43), (2, 1), (2, 35), (0, 3)] [(2, (76 : Int)), (0, (3 : Int)), (2, (44 : Int))]
  refine ev_aast (ci := 7) dX9_init_56 rfl sp44 (by decide) (by decide) sp76 (by decide) (by decide) ⟨by decide, by decide⟩ ?_
  show Ev _ _ _ _ 57 86 _ _ [(2, 43), (2, 1), (2, 35), (0, 3)] []
  refine ev_iinc dX9_init_57 rfl rfl ?_
  rw [show jadd (3 : Int) (1 : Int) = 4 by decide +kernel]
  show Ev _ _ _ _ 60 86 _ _ [(2, 43), (2, 1), (2, 35), (0, 4)] []
  refine ev_goto (tgt := 38) dX9_init_60 rfl ?_
  show Ev _ _ _ _ 38 86 _ _ [(2, 43), (2, 1), (2, 35), (0, 4)] []
  refine ev_iload_n dX9_init_38 rfl ?_
  show Ev _ _ _ _ 39 86 _ _ [(2, 43), (2, 1), (2, 35), (0, 4)] [(0, (4 : Int))]
  refine ev_bipush dX9_init_39 (by decide) (by decide) ?_
  show Ev _ _ _ _ 41 86 _ _ [(2, 43), (2, 1), (2, 35), (0, 4)] [(0, (10 : Int)), (0, (4 : Int))]
  refine ev_icmp_ge (tgt := 63) (X := some ()) (Y := some ()) (q := ()) dX9_init_41 rfl (by split <;> rfl) (fun z => absurd z (by decide)) (fun _ _ => ?_)
  show Ev _ _ _ _ 44 86 _ _ [(2, 43), (2, 1), (2, 35), (0, 4)] []
  refine ev_aload_n dX9_init_44 rfl (by decide) ?_
  show Ev _ _ _ _ 45 86 _ _ [(2, 43), (2, 1), (2, 35), (0, 4)] [(2, (43 : Int))]
  refine ev_getf (j := 2) (t := 2) (x := (44 : Int)) dX9_init_45 cf_X9 wf_X9_11 sp43 (by decide) (by decide) rfl (by decide) rfl ?_
  show Ev _ _ _ _ 48 86 _ _ [(2, 43), (2, 1), (2, 35), (0, 4)] [(2, (44 : Int))]
  refine ev_iload_n dX9_init_48 rfl ?_
  show Ev _ _ _ _ 49 86 _ _ [(2, 43), (2, 1), (2, 35), (0, 4)] [(0, (4 : Int)), (2, (44 : Int))]
  refine ev_new dX9_init_49 cf_X8 wk_X9_9 wi_X8 wz_X8 sp86 (by decide) ?_
  show Ev _ _ _ _ 52 87 _ _ [(2, 43), (2, 1), (2, 35), (0, 4)] [(2, (86 : Int)), (0, (4 : Int)), (2, (44 : Int))]
  refine ev_dup dX9_init_52 (show (2 : Nat) ≠ 1 by decide) ?_
  show Ev _ _ _ _ 53 87 _ _ [(2, 43), (2, 1), (2, 35), (0, 4)] [(2, (86 : Int)), (2, (86 : Int)), (0, (4 : Int)), (2, (44 : Int))]
  refine ev_invIN (k := 86) (av := []) (st := [(2, (86 : Int)), (0, (4 : Int)), (2, (44 : Int))]) dX9_init_53 ml_X9_33 mi_X8_init rfl (by decide) rfl rfl ⟨Nat.le_of_ble_eq_true rfl, Nat.le_of_ble_eq_true rfl⟩ (Nat.le_of_ble_eq_true rfl) (c_X8_init_87 _ _) ⟨by decide, by decide⟩ ?_
  show Ev _ _ _ _ 56 96 (rc_X8_init_87 _) (sc_X8_init_87 _) _ _
  show Ev _ _ _ _ 56 96 _ _ [(2, 43), (2, 1), (2, 35), (0, 4)] [(2, (86 : Int)), (0, (4 : Int)), (2, (44 : Int))]
  refine ev_aast (ci := 7) dX9_init_56 rfl sp44 (by decide) (by decide) sp86 (by decide) (by decide) ⟨by decide, by decide⟩ ?_
  show Ev _ _ _ _ 57 96 _ _ [(2, 43), (2, 1), (2, 35), (0, 4)] []
  refine ev_iinc dX9_init_57 rfl rfl ?_
  rw [show jadd (4 : Int) (1 : Int) = 5 by decide +kernel]
  show Ev _ _ _ _ 60 96 _ _ [(2, 43), (2, 1), (2, 35), (0, 5)] []
  refine ev_goto (tgt := 38) dX9_init_60 rfl ?_
  show Ev _ _ _ _ 38 96 _ _ [(2, 43), (2, 1), (2, 35), (0, 5)] []
  refine ev_iload_n dX9_init_38 rfl ?_
  show Ev _ _ _ _ 39 96 _ _ [(2, 43), (2, 1), (2, 35), (0, 5)] [(0, (5 : Int))]
  refine ev_bipush dX9_init_39 (by decide) (by decide) ?_
  show Ev _ _ _ _ 41 96 _ _ [(2, 43), (2, 1), (2, 35), (0, 5)] [(0, (10 : Int)), (0, (5 : Int))]
  refine ev_icmp_ge (tgt := 63) (X := some ()) (Y := some ()) (q := ()) dX9_init_41 rfl (by split <;> rfl) (fun z => absurd z (by decide)) (fun _ _ => ?_)
  show Ev _ _ _ _ 44 96 _ _ [(2, 43), (2, 1), (2, 35), (0, 5)] []
  refine ev_aload_n dX9_init_44 rfl (by decide) ?_
  show Ev _ _ _ _ 45 96 _ _ [(2, 43), (2, 1), (2, 35), (0, 5)] [(2, (43 : Int))]
  refine ev_getf (j := 2) (t := 2) (x := (44 : Int)) dX9_init_45 cf_X9 wf_X9_11 sp43 (by decide) (by decide) rfl (by decide) rfl ?_
  show Ev _ _ _ _ 48 96 _ _ [(2, 43), (2, 1), (2, 35), (0, 5)] [(2, (44 : Int))]
  refine ev_iload_n dX9_init_48 rfl ?_
  show Ev _ _ _ _ 49 96 _ _ [(2, 43), (2, 1), (2, 35), (0, 5)] [(0, (5 : Int)), (2, (44 : Int))]
  refine ev_new dX9_init_49 cf_X8 wk_X9_9 wi_X8 wz_X8 sp96 (by decide) ?_
  show Ev _ _ _ _ 52 97 _ _ [(2, 43), (2, 1), (2, 35), (0, 5)] [(2, (96 : Int)), (0, (5 : Int)), (2, (44 : Int))]
  refine ev_dup dX9_init_52 (show (2 : Nat) ≠ 1 by decide) ?_
  show Ev _ _ _ _ 53 97 _ _ [(2, 43), (2, 1), (2, 35), (0, 5)] [(2, (96 : Int)), (2, (96 : Int)), (0, (5 : Int)), (2, (44 : Int))]
  refine ev_invIN (k := 96) (av := []) (st := [(2, (96 : Int)), (0, (5 : Int)), (2, (44 : Int))]) dX9_init_53 ml_X9_33 mi_X8_init rfl (by decide) rfl rfl ⟨Nat.le_of_ble_eq_true rfl, Nat.le_of_ble_eq_true rfl⟩ (Nat.le_of_ble_eq_true rfl) (c_X8_init_97 _ _) ⟨by decide, by decide⟩ ?_
  show Ev _ _ _ _ 56 106 (rc_X8_init_97 _) (sc_X8_init_97 _) _ _
  show Ev _ _ _ _ 56 106 _ _ [(2, 43), (2, 1), (2, 35), (0, 5)] [(2, (96 : Int)), (0, (5 : Int)), (2, (44 : Int))]
  refine ev_aast (ci := 7) dX9_init_56 rfl sp44 (by decide) (by decide) sp96 (by decide) (by decide) ⟨by decide, by decide⟩ ?_
  show Ev _ _ _ _ 57 106 _ _ [(2, 43), (2, 1), (2, 35), (0, 5)] []
  refine ev_iinc dX9_init_57 rfl rfl ?_
  rw [show jadd (5 : Int) (1 : Int) = 6 by decide +kernel]
  show Ev _ _ _ _ 60 106 _ _ [(2, 43), (2, 1), (2, 35), (0, 6)] []
  refine ev_goto (tgt := 38) dX9_init_60 rfl ?_
  show Ev _ _ _ _ 38 106 _ _ [(2, 43), (2, 1), (2, 35), (0, 6)] []
  refine ev_iload_n dX9_init_38 rfl ?_
  show Ev _ _ _ _ 39 106 _ _ [(2, 43), (2, 1), (2, 35), (0, 6)] [(0, (6 : Int))]
  refine ev_bipush dX9_init_39 (by decide) (by decide) ?_
  show Ev _ _ _ _ 41 106 _ _ [(2, 43), (2, 1), (2, 35), (0, 6)] [(0, (10 : Int)), (0, (6 : Int))]
  refine ev_icmp_ge (tgt := 63) (X := some ()) (Y := some ()) (q := ()) dX9_init_41 rfl (by split <;> rfl) (fun z => absurd z (by decide)) (fun _ _ => ?_)
  show Ev _ _ _ _ 44 106 _ _ [(2, 43), (2, 1), (2, 35), (0, 6)] []
  refine ev_aload_n dX9_init_44 rfl (by decide) ?_
  show Ev _ _ _ _ 45 106 _ _ [(2, 43), (2, 1), (2, 35), (0, 6)] [(2, (43 : Int))]
  refine ev_getf (j := 2) (t := 2) (x := (44 : Int)) dX9_init_45 cf_X9 wf_X9_11 sp43 (by decide) (by decide) rfl (by decide) rfl ?_
  show Ev _ _ _ _ 48 106 _ _ [(2, 43), (2, 1), (2, 35), (0, 6)] [(2, (44 : Int))]
  refine ev_iload_n dX9_init_48 rfl ?_
  show Ev _ _ _ _ 49 106 _ _ [(2, 43), (2, 1), (2, 35), (0, 6)] [(0, (6 : Int)), (2, (44 : Int))]
  refine ev_new dX9_init_49 cf_X8 wk_X9_9 wi_X8 wz_X8 sp106 (by decide) ?_
  show Ev _ _ _ _ 52 107 _ _ [(2, 43), (2, 1), (2, 35), (0, 6)] [(2, (106 : Int)), (0, (6 : Int)), (2, (44 : Int))]
  refine ev_dup dX9_init_52 (show (2 : Nat) ≠ 1 by decide) ?_
  show Ev _ _ _ _ 53 107 _ _ [(2, 43), (2, 1), (2, 35), (0, 6)] [(2, (106 : Int)), (2, (106 : Int)), (0, (6 : Int)), (2, (44 : Int))]
  refine ev_invIN (k := 106) (av := []) (st := [(2, (106 : Int)), (0, (6 : Int)), (2, (44 : Int))]) dX9_init_53 ml_X9_33 mi_X8_init rfl (by decide) rfl rfl ⟨Nat.le_of_ble_eq_true rfl, Nat.le_of_ble_eq_true rfl⟩ (Nat.le_of_ble_eq_true rfl) (c_X8_init_107 _ _) ⟨by decide, by decide⟩ ?_
  show Ev _ _ _ _ 56 116 (rc_X8_init_107 _) (sc_X8_init_107 _) _ _
  show Ev _ _ _ _ 56 116 _ _ [(2, 43), (2, 1), (2, 35), (0, 6)] [(2, (106 : Int)), (0, (6 : Int)), (2, (44 : Int))]
  refine ev_aast (ci := 7) dX9_init_56 rfl sp44 (by decide) (by decide) sp106 (by decide) (by decide) ⟨by decide, by decide⟩ ?_
  show Ev _ _ _ _ 57 116 _ _ [(2, 43), (2, 1), (2, 35), (0, 6)] []
  refine ev_iinc dX9_init_57 rfl rfl ?_
  rw [show jadd (6 : Int) (1 : Int) = 7 by decide +kernel]
  show Ev _ _ _ _ 60 116 _ _ [(2, 43), (2, 1), (2, 35), (0, 7)] []
  refine ev_goto (tgt := 38) dX9_init_60 rfl ?_
  show Ev _ _ _ _ 38 116 _ _ [(2, 43), (2, 1), (2, 35), (0, 7)] []
  refine ev_iload_n dX9_init_38 rfl ?_
  show Ev _ _ _ _ 39 116 _ _ [(2, 43), (2, 1), (2, 35), (0, 7)] [(0, (7 : Int))]
  refine ev_bipush dX9_init_39 (by decide) (by decide) ?_
  show Ev _ _ _ _ 41 116 _ _ [(2, 43), (2, 1), (2, 35), (0, 7)] [(0, (10 : Int)), (0, (7 : Int))]
  refine ev_icmp_ge (tgt := 63) (X := some ()) (Y := some ()) (q := ()) dX9_init_41 rfl (by split <;> rfl) (fun z => absurd z (by decide)) (fun _ _ => ?_)
  show Ev _ _ _ _ 44 116 _ _ [(2, 43), (2, 1), (2, 35), (0, 7)] []
  refine ev_aload_n dX9_init_44 rfl (by decide) ?_
  show Ev _ _ _ _ 45 116 _ _ [(2, 43), (2, 1), (2, 35), (0, 7)] [(2, (43 : Int))]
  refine ev_getf (j := 2) (t := 2) (x := (44 : Int)) dX9_init_45 cf_X9 wf_X9_11 sp43 (by decide) (by decide) rfl (by decide) rfl ?_
  show Ev _ _ _ _ 48 116 _ _ [(2, 43), (2, 1), (2, 35), (0, 7)] [(2, (44 : Int))]
  refine ev_iload_n dX9_init_48 rfl ?_
  show Ev _ _ _ _ 49 116 _ _ [(2, 43), (2, 1), (2, 35), (0, 7)] [(0, (7 : Int)), (2, (44 : Int))]
  refine ev_new dX9_init_49 cf_X8 wk_X9_9 wi_X8 wz_X8 sp116 (by decide) ?_
  show Ev _ _ _ _ 52 117 _ _ [(2, 43), (2, 1), (2, 35), (0, 7)] [(2, (116 : Int)), (0, (7 : Int)), (2, (44 : Int))]
  refine ev_dup dX9_init_52 (show (2 : Nat) ≠ 1 by decide) ?_
  show Ev _ _ _ _ 53 117 _ _ [(2, 43), (2, 1), (2, 35), (0, 7)] [(2, (116 : Int)), (2, (116 : Int)), (0, (7 : Int)), (2, (44 : Int))]
  refine ev_invIN (k := 116) (av := []) (st := [(2, (116 : Int)), (0, (7 : Int)), (2, (44 : Int))]) dX9_init_53 ml_X9_33 mi_X8_init rfl (by decide) rfl rfl ⟨Nat.le_of_ble_eq_true rfl, Nat.le_of_ble_eq_true rfl⟩ (Nat.le_of_ble_eq_true rfl) (c_X8_init_117 _ _) ⟨by decide, by decide⟩ ?_
  show Ev _ _ _ _ 56 126 (rc_X8_init_117 _) (sc_X8_init_117 _) _ _
  show Ev _ _ _ _ 56 126 _ _ [(2, 43), (2, 1), (2, 35), (0, 7)] [(2, (116 : Int)), (0, (7 : Int)), (2, (44 : Int))]
  refine ev_aast (ci := 7) dX9_init_56 rfl sp44 (by decide) (by decide) sp116 (by decide) (by decide) ⟨by decide, by decide⟩ ?_
  show Ev _ _ _ _ 57 126 _ _ [(2, 43), (2, 1), (2, 35), (0, 7)] []
  refine ev_iinc dX9_init_57 rfl rfl ?_
  rw [show jadd (7 : Int) (1 : Int) = 8 by decide +kernel]
  show Ev _ _ _ _ 60 126 _ _ [(2, 43), (2, 1), (2, 35), (0, 8)] []
  refine ev_goto (tgt := 38) dX9_init_60 rfl ?_
  show Ev _ _ _ _ 38 126 _ _ [(2, 43), (2, 1), (2, 35), (0, 8)] []
  refine ev_iload_n dX9_init_38 rfl ?_
  show Ev _ _ _ _ 39 126 _ _ [(2, 43), (2, 1), (2, 35), (0, 8)] [(0, (8 : Int))]
  refine ev_bipush dX9_init_39 (by decide) (by decide) ?_
  show Ev _ _ _ _ 41 126 _ _ [(2, 43), (2, 1), (2, 35), (0, 8)] [(0, (10 : Int)), (0, (8 : Int))]
  refine ev_icmp_ge (tgt := 63) (X := some ()) (Y := some ()) (q := ()) dX9_init_41 rfl (by split <;> rfl) (fun z => absurd z (by decide)) (fun _ _ => ?_)
  show Ev _ _ _ _ 44 126 _ _ [(2, 43), (2, 1), (2, 35), (0, 8)] []
  refine ev_aload_n dX9_init_44 rfl (by decide) ?_
  show Ev _ _ _ _ 45 126 _ _ [(2, 43), (2, 1), (2, 35), (0, 8)] [(2, (43 : Int))]
  refine ev_getf (j := 2) (t := 2) (x := (44 : Int)) dX9_init_45 cf_X9 wf_X9_11 sp43 (by decide) (by decide) rfl (by decide) rfl ?_
  show Ev _ _ _ _ 48 126 _ _ [(2, 43), (2, 1), (2, 35), (0, 8)] [(2, (44 : Int))]
  refine ev_iload_n dX9_init_48 rfl ?_
  show Ev _ _ _ _ 49 126 _ _ [(2, 43), (2, 1), (2, 35), (0, 8)] [(0, (8 : Int)), (2, (44 : Int))]
  refine ev_new dX9_init_49 cf_X8 wk_X9_9 wi_X8 wz_X8 sp126 (by decide) ?_
  show Ev _ _ _ _ 52 127 _ _ [(2, 43), (2, 1), (2, 35), (0, 8)] [(2, (126 : Int)), (0, (8 : Int)), (2, (44 : Int))]
  refine ev_dup dX9_init_52 (show (2 : Nat) ≠ 1 by decide) ?_
  show Ev _ _ _ _ 53 127 _ _ [(2, 43), (2, 1), (2, 35), (0, 8)] [(2, (126 : Int)), (2, (126 : Int)), (0, (8 : Int)), (2, (44 : Int))]
  refine ev_invIN (k := 126) (av := []) (st := [(2, (126 : Int)), (0, (8 : Int)), (2, (44 : Int))]) dX9_init_53 ml_X9_33 mi_X8_init rfl (by decide) rfl rfl ⟨Nat.le_of_ble_eq_true rfl, Nat.le_of_ble_eq_true rfl⟩ (Nat.le_of_ble_eq_true rfl) (c_X8_init_127 _ _) ⟨by decide, by decide⟩ ?_
  show Ev _ _ _ _ 56 136 (rc_X8_init_127 _) (sc_X8_init_127 _) _ _
  show Ev _ _ _ _ 56 136 _ _ [(2, 43), (2, 1), (2, 35), (0, 8)] [(2, (126 : Int)), (0, (8 : Int)), (2, (44 : Int))]
  refine ev_aast (ci := 7) dX9_init_56 rfl sp44 (by decide) (by decide) sp126 (by decide) (by decide) ⟨by decide, by decide⟩ ?_
  show Ev _ _ _ _ 57 136 _ _ [(2, 43), (2, 1), (2, 35), (0, 8)] []
  refine ev_iinc dX9_init_57 rfl rfl ?_
  rw [show jadd (8 : Int) (1 : Int) = 9 by decide +kernel]
  show Ev _ _ _ _ 60 136 _ _ [(2, 43), (2, 1), (2, 35), (0, 9)] []
  refine ev_goto (tgt := 38) dX9_init_60 rfl ?_
  show Ev _ _ _ _ 38 136 _ _ [(2, 43), (2, 1), (2, 35), (0, 9)] []
  refine ev_iload_n dX9_init_38 rfl ?_
  show Ev _ _ _ _ 39 136 _ _ [(2, 43), (2, 1), (2, 35), (0, 9)] [(0, (9 : Int))]
  refine ev_bipush dX9_init_39 (by decide) (by decide) ?_
  show Ev _ _ _ _ 41 136 _ _ [(2, 43), (2, 1), (2, 35), (0, 9)] [(0, (10 : Int)), (0, (9 : Int))]
  refine ev_icmp_ge (tgt := 63) (X := some ()) (Y := some ()) (q := ()) dX9_init_41 rfl (by split <;> rfl) (fun z => absurd z (by decide)) (fun _ _ => ?_)
  show Ev _ _ _ _ 44 136 _ _ [(2, 43), (2, 1), (2, 35), (0, 9)] []
  refine ev_aload_n dX9_init_44 rfl (by decide) ?_
  show Ev _ _ _ _ 45 136 _ _ [(2, 43), (2, 1), (2, 35), (0, 9)] [(2, (43 : Int))]
  refine ev_getf (j := 2) (t := 2) (x := (44 : Int)) dX9_init_45 cf_X9 wf_X9_11 sp43 (by decide) (by decide) rfl (by decide) rfl ?_
  show Ev _ _ _ _ 48 136 _ _ [(2, 43), (2, 1), (2, 35), (0, 9)] [(2, (44 : Int))]
  refine ev_iload_n dX9_init_48 rfl ?_
  show Ev _ _ _ _ 49 136 _ _ [(2, 43), (2, 1), (2, 35), (0, 9)] [(0, (9 : Int)), (2, (44 : Int))]
  refine ev_new dX9_init_49 cf_X8 wk_X9_9 wi_X8 wz_X8 sp136 (by decide) ?_
  show Ev _ _ _ _ 52 137 _ _ [(2, 43), (2, 1), (2, 35), (0, 9)] [(2, (136 : Int)), (0, (9 : Int)), (2, (44 : Int))]
  refine ev_dup dX9_init_52 (show (2 : Nat) ≠ 1 by decide) ?_
  show Ev _ _ _ _ 53 137 _ _ [(2, 43), (2, 1), (2, 35), (0, 9)] [(2, (136 : Int)), (2, (136 : Int)), (0, (9 : Int)), (2, (44 : Int))]
  refine ev_invIN (k := 136) (av := []) (st := [(2, (136 : Int)), (0, (9 : Int)), (2, (44 : Int))]) dX9_init_53 ml_X9_33 mi_X8_init rfl (by decide) rfl rfl ⟨Nat.le_of_ble_eq_true rfl, Nat.le_of_ble_eq_true rfl⟩ (Nat.le_of_ble_eq_true rfl) (c_X8_init_137 _ _) ⟨by decide, by decide⟩ ?_
  show Ev _ _ _ _ 56 146 (rc_X8_init_137 _) (sc_X8_init_137 _) _ _
  show Ev _ _ _ _ 56 146 _ _ [(2, 43), (2, 1), (2, 35), (0, 9)] [(2, (136 : Int)), (0, (9 : Int)), (2, (44 : Int))]
  refine ev_aast (ci := 7) dX9_init_56 rfl sp44 (by decide) (by decide) sp136 (by decide) (by decide) ⟨by decide, by decide⟩ ?_
  show Ev _ _ _ _ 57 146 _ _ [(2, 43), (2, 1), (2, 35), (0, 9)] []
  refine ev_iinc dX9_init_57 rfl rfl ?_
  rw [show jadd (9 : Int) (1 : Int) = 10 by decide +kernel]
  show Ev _ _ _ _ 60 146 _ _ [(2, 43), (2, 1), (2, 35), (0, 10)] []
  refine ev_goto (tgt := 38) dX9_init_60 rfl ?_
  show Ev _ _ _ _ 38 146 _ _ [(2, 43), (2, 1), (2, 35), (0, 10)] []
  refine ev_iload_n dX9_init_38 rfl ?_
  show Ev _ _ _ _ 39 146 _ _ [(2, 43), (2, 1), (2, 35), (0, 10)] [(0, (10 : Int))]
  refine ev_bipush dX9_init_39 (by decide) (by decide) ?_
  show Ev _ _ _ _ 41 146 _ _ [(2, 43), (2, 1), (2, 35), (0, 10)] [(0, (10 : Int)), (0, (10 : Int))]
  refine ev_icmp_ge (tgt := 63) (X := some ()) (Y := some ()) (q := ()) dX9_init_41 rfl (by split <;> rfl) (fun _ _ => ?_) (fun z => absurd (by decide) z)
  show Ev _ _ _ _ 63 146 _ _ [(2, 43), (2, 1), (2, 35), (0, 10)] []
  exact ev_vret dX9_init_63 rfl rfl
def rc_X8_init_147 (ρ : Mem) : Mem := (mup (mup (mup (mup (mup (mup (mup (mup (mup ρ 146 0 147) 146 1 148) 146 2 149) 146 3 150) 146 4 151) 146 5 152) 146 6 153) 146 7 154) 146 8 155)
def sc_X8_init_147 (σ : Mem) : Mem := σ
set_option maxHeartbeats 4000000 in
set_option maxRecDepth 20000 in
theorem c_X8_init_147 (ρ σ : Mem) : Ms yX8_init M_X8_init 147 156 [(2, 146)] ρ σ (none, rc_X8_init_147 ρ, sc_X8_init_147 σ) := by
  refine Ms.of 0 (by decide +kernel) rfl (fun _ => rfl) (fun _ _ _ => trivial) rfl rfl ?_
  show Ev M_X8_init 147 156 _ 0 147 ρ σ [(2, 146)] []
  show Ev _ _ _ _ 0 147 _ _ [(2, 146)] []
  refine ev_aload_n dX8_init_0 rfl (by decide) ?_
  show Ev _ _ _ _ 1 147 _ _ [(2, 146)] [(2, (146 : Int))]
  refine ev_oinit dX8_init_1 wo_X8_3 wo_i wo_c (by decide) (by decide) (by decide) ?_
  show Ev _ _ _ _ 4 147 _ _ [(2, 146)] []
  refine ev_aload_n dX8_init_4 rfl (by decide) ?_
  show Ev _ _ _ _ 5 147 _ _ [(2, 146)] [(2, (146 : Int))]
  refine ev_iconst dX8_init_5 (by decide) ?_
  show Ev _ _ _ _ 6 147 _ _ [(2, 146)] [(0, (5 : Int)), (2, (146 : Int))]
  refine ev_newz (N := 5) dX8_init_6 wyboolean sp147 (by decide) (by decide) ?_
  show Ev _ _ _ _ 8 148 _ _ [(2, 146)] [(2, (147 : Int)), (2, (146 : Int))]
  refine ev_putrF (j := 0) dX8_init_8 cf_X8 wf_X8_9 sp146 (by decide) (by decide) rfl rfl rfl rfl (fun z => absurd z (by decide +kernel)) ?_
  show Ev _ _ _ _ 11 148 _ _ [(2, 146)] []
  refine ev_aload_n dX8_init_11 rfl (by decide) ?_
  show Ev _ _ _ _ 12 148 _ _ [(2, 146)] [(2, (146 : Int))]
  refine ev_iconst dX8_init_12 (by decide) ?_
  show Ev _ _ _ _ 13 148 _ _ [(2, 146)] [(0, (5 : Int)), (2, (146 : Int))]
  refine ev_newi (N := 5) dX8_init_13 wyint sp148 (by decide) (by decide) ?_
  show Ev _ _ _ _ 15 149 _ _ [(2, 146)] [(2, (148 : Int)), (2, (146 : Int))]
  refine ev_putrF (j := 1) dX8_init_15 cf_X8 wf_X8_15 sp146 (by decide) (by decide) rfl rfl rfl rfl (fun z => absurd z (by decide +kernel)) ?_
  show Ev _ _ _ _ 18 149 _ _ [(2, 146)] []
  refine ev_aload_n dX8_init_18 rfl (by decide) ?_
  show Ev _ _ _ _ 19 149 _ _ [(2, 146)] [(2, (146 : Int))]
  refine ev_iconst dX8_init_19 (by decide) ?_
  show Ev _ _ _ _ 20 149 _ _ [(2, 146)] [(0, (5 : Int)), (2, (146 : Int))]
  refine ev_newi (N := 5) dX8_init_20 wyint sp149 (by decide) (by decide) ?_
  show Ev _ _ _ _ 22 150 _ _ [(2, 146)] [(2, (149 : Int)), (2, (146 : Int))]
  refine ev_putrF (j := 2) dX8_init_22 cf_X8 wf_X8_19 sp146 (by decide) (by decide) rfl rfl rfl rfl (fun z => absurd z (by decide +kernel)) ?_
  show Ev _ _ _ _ 25 150 _ _ [(2, 146)] []
  refine ev_aload_n dX8_init_25 rfl (by decide) ?_
  show Ev _ _ _ _ 26 150 _ _ [(2, 146)] [(2, (146 : Int))]
  refine ev_iconst dX8_init_26 (by decide) ?_
  show Ev _ _ _ _ 27 150 _ _ [(2, 146)] [(0, (5 : Int)), (2, (146 : Int))]
  refine ev_newi (N := 5) dX8_init_27 wyint sp150 (by decide) (by decide) ?_
  show Ev _ _ _ _ 29 151 _ _ [(2, 146)] [(2, (150 : Int)), (2, (146 : Int))]
  refine ev_putrF (j := 3) dX8_init_29 cf_X8 wf_X8_22 sp146 (by decide) (by decide) rfl rfl rfl rfl (fun z => absurd z (by decide +kernel)) ?_
  show Ev _ _ _ _ 32 151 _ _ [(2, 146)] []
  refine ev_aload_n dX8_init_32 rfl (by decide) ?_
  show Ev _ _ _ _ 33 151 _ _ [(2, 146)] [(2, (146 : Int))]
  refine ev_iconst dX8_init_33 (by decide) ?_
  show Ev _ _ _ _ 34 151 _ _ [(2, 146)] [(0, (5 : Int)), (2, (146 : Int))]
  refine ev_newi (N := 5) dX8_init_34 wyint sp151 (by decide) (by decide) ?_
  show Ev _ _ _ _ 36 152 _ _ [(2, 146)] [(2, (151 : Int)), (2, (146 : Int))]
  refine ev_putrF (j := 4) dX8_init_36 cf_X8 wf_X8_25 sp146 (by decide) (by decide) rfl rfl rfl rfl (fun z => absurd z (by decide +kernel)) ?_
  show Ev _ _ _ _ 39 152 _ _ [(2, 146)] []
  refine ev_aload_n dX8_init_39 rfl (by decide) ?_
  show Ev _ _ _ _ 40 152 _ _ [(2, 146)] [(2, (146 : Int))]
  refine ev_iconst dX8_init_40 (by decide) ?_
  show Ev _ _ _ _ 41 152 _ _ [(2, 146)] [(0, (5 : Int)), (2, (146 : Int))]
  refine ev_newl (N := 5) dX8_init_41 wylong sp152 (by decide) (by decide) ?_
  show Ev _ _ _ _ 43 153 _ _ [(2, 146)] [(2, (152 : Int)), (2, (146 : Int))]
  refine ev_putrF (j := 5) dX8_init_43 cf_X8 wf_X8_28 sp146 (by decide) (by decide) rfl rfl rfl rfl (fun z => absurd z (by decide +kernel)) ?_
  show Ev _ _ _ _ 46 153 _ _ [(2, 146)] []
  refine ev_aload_n dX8_init_46 rfl (by decide) ?_
  show Ev _ _ _ _ 47 153 _ _ [(2, 146)] [(2, (146 : Int))]
  refine ev_bipush dX8_init_47 (by decide) (by decide) ?_
  show Ev _ _ _ _ 49 153 _ _ [(2, 146)] [(0, (20 : Int)), (2, (146 : Int))]
  refine ev_newi (N := 20) dX8_init_49 wyint sp153 (by decide) (by decide) ?_
  show Ev _ _ _ _ 51 154 _ _ [(2, 146)] [(2, (153 : Int)), (2, (146 : Int))]
  refine ev_putrF (j := 6) dX8_init_51 cf_X8 wf_X8_32 sp146 (by decide) (by decide) rfl rfl rfl rfl (fun z => absurd z (by decide +kernel)) ?_
  show Ev _ _ _ _ 54 154 _ _ [(2, 146)] []
  refine ev_aload_n dX8_init_54 rfl (by decide) ?_
  show Ev _ _ _ _ 55 154 _ _ [(2, 146)] [(2, (146 : Int))]
  refine ev_bipush dX8_init_55 (by decide) (by decide) ?_
  show Ev _ _ _ _ 57 154 _ _ [(2, 146)] [(0, (20 : Int)), (2, (146 : Int))]
  refine ev_newi (N := 20) dX8_init_57 wyint sp154 (by decide) (by decide) ?_
  show Ev _ _ _ _ 59 155 _ _ [(2, 146)] [(2, (154 : Int)), (2, (146 : Int))]
  refine ev_putrF (j := 7) dX8_init_59 cf_X8 wf_X8_35 sp146 (by decide) (by decide) rfl rfl rfl rfl (fun z => absurd z (by decide +kernel)) ?_
  show Ev _ _ _ _ 62 155 _ _ [(2, 146)] []
  refine ev_aload_n dX8_init_62 rfl (by decide) ?_
  show Ev _ _ _ _ 63 155 _ _ [(2, 146)] [(2, (146 : Int))]
  refine ev_bipush dX8_init_63 (by decide) (by decide) ?_
  show Ev _ _ _ _ 65 155 _ _ [(2, 146)] [(0, (20 : Int)), (2, (146 : Int))]
  refine ev_newi (N := 20) dX8_init_65 wyint sp155 (by decide) (by decide) ?_
  show Ev _ _ _ _ 67 156 _ _ [(2, 146)] [(2, (155 : Int)), (2, (146 : Int))]
  refine ev_putrF (j := 8) dX8_init_67 cf_X8 wf_X8_38 sp146 (by decide) (by decide) rfl rfl rfl rfl (fun z => absurd z (by decide +kernel)) ?_
  show Ev _ _ _ _ 70 156 _ _ [(2, 146)] []
  exact ev_vret dX8_init_70 rfl rfl
def rc_X1_init_157 (ρ : Mem) : Mem := (mup (mup (mup (mup (mup (mup ρ 156 0 157) 156 1 158) 156 2 159) 156 3 160) 156 4 161) 156 5 162)
def sc_X1_init_157 (σ : Mem) : Mem := σ
set_option maxHeartbeats 4000000 in
set_option maxRecDepth 20000 in
theorem c_X1_init_157 (ρ σ : Mem) : Ms yX1_init M_X1_init 157 163 [(2, 156)] ρ σ (none, rc_X1_init_157 ρ, sc_X1_init_157 σ) := by
  refine Ms.of 0 (by decide +kernel) rfl (fun _ => rfl) (fun _ _ _ => trivial) rfl rfl ?_
  show Ev M_X1_init 157 163 _ 0 157 ρ σ [(2, 156)] []
  show Ev _ _ _ _ 0 157 _ _ [(2, 156)] []
  refine ev_aload_n dX1_init_0 rfl (by decide) ?_
  show Ev _ _ _ _ 1 157 _ _ [(2, 156)] [(2, (156 : Int))]
  refine ev_oinit dX1_init_1 wo_X1_3 wo_i wo_c (by decide) (by decide) (by decide) ?_
  show Ev _ _ _ _ 4 157 _ _ [(2, 156)] []
  refine ev_aload_n dX1_init_4 rfl (by decide) ?_
  show Ev _ _ _ _ 5 157 _ _ [(2, 156)] [(2, (156 : Int))]
  refine ev_sipush dX1_init_5 (by decide) (by decide) ?_
  show Ev _ _ _ _ 8 157 _ _ [(2, 156)] [(0, (200 : Int)), (2, (156 : Int))]
  refine ev_newi (N := 200) dX1_init_8 wyint sp157 (by decide) (by decide) ?_
  show Ev _ _ _ _ 10 158 _ _ [(2, 156)] [(2, (157 : Int)), (2, (156 : Int))]
  refine ev_putrF (j := 0) dX1_init_10 cf_X1 wf_X1_9 sp156 (by decide) (by decide) rfl rfl rfl rfl (fun z => absurd z (by decide +kernel)) ?_
  show Ev _ _ _ _ 13 158 _ _ [(2, 156)] []
  refine ev_aload_n dX1_init_13 rfl (by decide) ?_
  show Ev _ _ _ _ 14 158 _ _ [(2, 156)] [(2, (156 : Int))]
  refine ev_sipush dX1_init_14 (by decide) (by decide) ?_
  show Ev _ _ _ _ 17 158 _ _ [(2, 156)] [(0, (200 : Int)), (2, (156 : Int))]
  refine ev_newi (N := 200) dX1_init_17 wyint sp158 (by decide) (by decide) ?_
  show Ev _ _ _ _ 19 159 _ _ [(2, 156)] [(2, (158 : Int)), (2, (156 : Int))]
  refine ev_putrF (j := 1) dX1_init_19 cf_X1 wf_X1_15 sp156 (by decide) (by decide) rfl rfl rfl rfl (fun z => absurd z (by decide +kernel)) ?_
  show Ev _ _ _ _ 22 159 _ _ [(2, 156)] []
  refine ev_aload_n dX1_init_22 rfl (by decide) ?_
  show Ev _ _ _ _ 23 159 _ _ [(2, 156)] [(2, (156 : Int))]
  refine ev_sipush dX1_init_23 (by decide) (by decide) ?_
  show Ev _ _ _ _ 26 159 _ _ [(2, 156)] [(0, (200 : Int)), (2, (156 : Int))]
  refine ev_newi (N := 200) dX1_init_26 wyint sp159 (by decide) (by decide) ?_
  show Ev _ _ _ _ 28 160 _ _ [(2, 156)] [(2, (159 : Int)), (2, (156 : Int))]
  refine ev_putrF (j := 2) dX1_init_28 cf_X1 wf_X1_18 sp156 (by decide) (by decide) rfl rfl rfl rfl (fun z => absurd z (by decide +kernel)) ?_
  show Ev _ _ _ _ 31 160 _ _ [(2, 156)] []
  refine ev_aload_n dX1_init_31 rfl (by decide) ?_
  show Ev _ _ _ _ 32 160 _ _ [(2, 156)] [(2, (156 : Int))]
  refine ev_sipush dX1_init_32 (by decide) (by decide) ?_
  show Ev _ _ _ _ 35 160 _ _ [(2, 156)] [(0, (200 : Int)), (2, (156 : Int))]
  refine ev_newi (N := 200) dX1_init_35 wyint sp160 (by decide) (by decide) ?_
  show Ev _ _ _ _ 37 161 _ _ [(2, 156)] [(2, (160 : Int)), (2, (156 : Int))]
  refine ev_putrF (j := 3) dX1_init_37 cf_X1 wf_X1_21 sp156 (by decide) (by decide) rfl rfl rfl rfl (fun z => absurd z (by decide +kernel)) ?_
  show Ev _ _ _ _ 40 161 _ _ [(2, 156)] []
  refine ev_aload_n dX1_init_40 rfl (by decide) ?_
  show Ev _ _ _ _ 41 161 _ _ [(2, 156)] [(2, (156 : Int))]
  refine ev_sipush dX1_init_41 (by decide) (by decide) ?_
  show Ev _ _ _ _ 44 161 _ _ [(2, 156)] [(0, (200 : Int)), (2, (156 : Int))]
  refine ev_newi (N := 200) dX1_init_44 wyint sp161 (by decide) (by decide) ?_
  show Ev _ _ _ _ 46 162 _ _ [(2, 156)] [(2, (161 : Int)), (2, (156 : Int))]
  refine ev_putrF (j := 4) dX1_init_46 cf_X1 wf_X1_24 sp156 (by decide) (by decide) rfl rfl rfl rfl (fun z => absurd z (by decide +kernel)) ?_
  show Ev _ _ _ _ 49 162 _ _ [(2, 156)] []
  refine ev_aload_n dX1_init_49 rfl (by decide) ?_
  show Ev _ _ _ _ 50 162 _ _ [(2, 156)] [(2, (156 : Int))]
  refine ev_sipush dX1_init_50 (by decide) (by decide) ?_
  show Ev _ _ _ _ 53 162 _ _ [(2, 156)] [(0, (200 : Int)), (2, (156 : Int))]
  refine ev_newi (N := 200) dX1_init_53 wyint sp162 (by decide) (by decide) ?_
  show Ev _ _ _ _ 55 163 _ _ [(2, 156)] [(2, (162 : Int)), (2, (156 : Int))]
  refine ev_putrF (j := 5) dX1_init_55 cf_X1 wf_X1_27 sp156 (by decide) (by decide) rfl rfl rfl rfl (fun z => absurd z (by decide +kernel)) ?_
  show Ev _ _ _ _ 58 163 _ _ [(2, 156)] []
  exact ev_vret dX1_init_58 rfl rfl
def rc_X5_init_164 (ρ : Mem) : Mem := (mup (mup (mup (mup (mup (mup (mup ρ 163 0 164) 163 1 165) 163 2 166) 163 3 167) 163 4 168) 163 5 169) 163 6 170)
def sc_X5_init_164 (σ : Mem) : Mem := σ
set_option maxHeartbeats 4000000 in
set_option maxRecDepth 20000 in
theorem c_X5_init_164 (ρ σ : Mem) : Ms yX5_init M_X5_init 164 171 [(2, 163)] ρ σ (none, rc_X5_init_164 ρ, sc_X5_init_164 σ) := by
  refine Ms.of 0 (by decide +kernel) rfl (fun _ => rfl) (fun _ _ _ => trivial) rfl rfl ?_
  show Ev M_X5_init 164 171 _ 0 164 ρ σ [(2, 163)] []
  show Ev _ _ _ _ 0 164 _ _ [(2, 163)] []
  refine ev_aload_n dX5_init_0 rfl (by decide) ?_
  show Ev _ _ _ _ 1 164 _ _ [(2, 163)] [(2, (163 : Int))]
  refine ev_oinit dX5_init_1 wo_X5_3 wo_i wo_c (by decide) (by decide) (by decide) ?_
  show Ev _ _ _ _ 4 164 _ _ [(2, 163)] []
  refine ev_aload_n dX5_init_4 rfl (by decide) ?_
  show Ev _ _ _ _ 5 164 _ _ [(2, 163)] [(2, (163 : Int))]
  refine ev_sipush dX5_init_5 (by decide) (by decide) ?_
  show Ev _ _ _ _ 8 164 _ _ [(2, 163)] [(0, (288 : Int)), (2, (163 : Int))]
  refine ev_newi (N := 288) dX5_init_8 wyint sp164 (by decide) (by decide) ?_
  show Ev _ _ _ _ 10 165 _ _ [(2, 163)] [(2, (164 : Int)), (2, (163 : Int))]
  refine ev_putrF (j := 0) dX5_init_10 cf_X5 wf_X5_9 sp163 (by decide) (by decide) rfl rfl rfl rfl (fun z => absurd z (by decide +kernel)) ?_
  show Ev _ _ _ _ 13 165 _ _ [(2, 163)] []
  refine ev_aload_n dX5_init_13 rfl (by decide) ?_
  show Ev _ _ _ _ 14 165 _ _ [(2, 163)] [(2, (163 : Int))]
  refine ev_bipush dX5_init_14 (by decide) (by decide) ?_
  show Ev _ _ _ _ 16 165 _ _ [(2, 163)] [(0, (6 : Int)), (2, (163 : Int))]
  refine ev_newl (N := 6) dX5_init_16 wylong sp165 (by decide) (by decide) ?_
  show Ev _ _ _ _ 18 166 _ _ [(2, 163)] [(2, (165 : Int)), (2, (163 : Int))]
  refine ev_putrF (j := 1) dX5_init_18 cf_X5 wf_X5_15 sp163 (by decide) (by decide) rfl rfl rfl rfl (fun z => absurd z (by decide +kernel)) ?_
  show Ev _ _ _ _ 21 166 _ _ [(2, 163)] []
  refine ev_aload_n dX5_init_21 rfl (by decide) ?_
  show Ev _ _ _ _ 22 166 _ _ [(2, 163)] [(2, (163 : Int))]
  refine ev_bipush dX5_init_22 (by decide) (by decide) ?_
  show Ev _ _ _ _ 24 166 _ _ [(2, 163)] [(0, (9 : Int)), (2, (163 : Int))]
  refine ev_newl (N := 9) dX5_init_24 wylong sp166 (by decide) (by decide) ?_
  show Ev _ _ _ _ 26 167 _ _ [(2, 163)] [(2, (166 : Int)), (2, (163 : Int))]
  refine ev_putrF (j := 2) dX5_init_26 cf_X5 wf_X5_19 sp163 (by decide) (by decide) rfl rfl rfl rfl (fun z => absurd z (by decide +kernel)) ?_
  show Ev _ _ _ _ 29 167 _ _ [(2, 163)] []
  refine ev_aload_n dX5_init_29 rfl (by decide) ?_
  show Ev _ _ _ _ 30 167 _ _ [(2, 163)] [(2, (163 : Int))]
  refine ev_bipush dX5_init_30 (by decide) (by decide) ?_
  show Ev _ _ _ _ 32 167 _ _ [(2, 163)] [(0, (10 : Int)), (2, (163 : Int))]
  refine ev_newi (N := 10) dX5_init_32 wyint sp167 (by decide) (by decide) ?_
  show Ev _ _ _ _ 34 168 _ _ [(2, 163)] [(2, (167 : Int)), (2, (163 : Int))]
  refine ev_putrF (j := 3) dX5_init_34 cf_X5 wf_X5_22 sp163 (by decide) (by decide) rfl rfl rfl rfl (fun z => absurd z (by decide +kernel)) ?_
  show Ev _ _ _ _ 37 168 _ _ [(2, 163)] []
  refine ev_aload_n dX5_init_37 rfl (by decide) ?_
  show Ev _ _ _ _ 38 168 _ _ [(2, 163)] [(2, (163 : Int))]
  refine ev_bipush dX5_init_38 (by decide) (by decide) ?_
  show Ev _ _ _ _ 40 168 _ _ [(2, 163)] [(0, (10 : Int)), (2, (163 : Int))]
  refine ev_newi (N := 10) dX5_init_40 wyint sp168 (by decide) (by decide) ?_
  show Ev _ _ _ _ 42 169 _ _ [(2, 163)] [(2, (168 : Int)), (2, (163 : Int))]
  refine ev_putrF (j := 4) dX5_init_42 cf_X5 wf_X5_25 sp163 (by decide) (by decide) rfl rfl rfl rfl (fun z => absurd z (by decide +kernel)) ?_
  show Ev _ _ _ _ 45 169 _ _ [(2, 163)] []
  refine ev_aload_n dX5_init_45 rfl (by decide) ?_
  show Ev _ _ _ _ 46 169 _ _ [(2, 163)] [(2, (163 : Int))]
  refine ev_bipush dX5_init_46 (by decide) (by decide) ?_
  show Ev _ _ _ _ 48 169 _ _ [(2, 163)] [(0, (90 : Int)), (2, (163 : Int))]
  refine ev_newi (N := 90) dX5_init_48 wyint sp169 (by decide) (by decide) ?_
  show Ev _ _ _ _ 50 170 _ _ [(2, 163)] [(2, (169 : Int)), (2, (163 : Int))]
  refine ev_putrF (j := 5) dX5_init_50 cf_X5 wf_X5_28 sp163 (by decide) (by decide) rfl rfl rfl rfl (fun z => absurd z (by decide +kernel)) ?_
  show Ev _ _ _ _ 53 170 _ _ [(2, 163)] []
  refine ev_aload_n dX5_init_53 rfl (by decide) ?_
  show Ev _ _ _ _ 54 170 _ _ [(2, 163)] [(2, (163 : Int))]
  refine ev_bipush dX5_init_54 (by decide) (by decide) ?_
  show Ev _ _ _ _ 56 170 _ _ [(2, 163)] [(0, (54 : Int)), (2, (163 : Int))]
  refine ev_newi (N := 54) dX5_init_56 wyint sp170 (by decide) (by decide) ?_
  show Ev _ _ _ _ 58 171 _ _ [(2, 163)] [(2, (170 : Int)), (2, (163 : Int))]
  refine ev_putrF (j := 6) dX5_init_58 cf_X5 wf_X5_31 sp163 (by decide) (by decide) rfl rfl rfl rfl (fun z => absurd z (by decide +kernel)) ?_
  show Ev _ _ _ _ 61 171 _ _ [(2, 163)] []
  exact ev_vret dX5_init_61 rfl rfl
def rc_X10_init_1 (ρ : Mem) : Mem := (mup (mup (mup (rc_X5_init_164 (mup (rc_X1_init_157 (mup (rc_X8_init_147 (mup (rc_X9_init_44 (mup (rc_X4_init_36 (mup (mup (rc_X6_init_31 (mup (rc_X7_init_29 (mup (rc_X0_init_20 (mup (rc_X0_init_11 (mup (rc_X0_init_2 ρ) 0 0 1)) 0 1 10)) 0 2 19)) 0 4 28)) 0 5 30) 0 6 34)) 0 7 35)) 0 8 43)) 0 9 146)) 0 10 156)) 0 11 163) 0 12 171) 0 13 172)
def sc_X10_init_1 (σ : Mem) : Mem := (sc_X5_init_164 (sc_X1_init_157 (sc_X8_init_147 (sc_X9_init_44 (sc_X4_init_36 (sc_X6_init_31 (sc_X7_init_29 (sc_X0_init_20 (sc_X0_init_11 (sc_X0_init_2 σ))))))))))
set_option maxHeartbeats 4000000 in
set_option maxRecDepth 20000 in
theorem c_X10_init_1 (ρ σ : Mem) : Ms yX10_init M_X10_init 1 173 [(2, 0)] ρ σ (none, rc_X10_init_1 ρ, sc_X10_init_1 σ) := by
  refine Ms.of 0 (by decide +kernel) rfl (fun _ => rfl) (fun _ _ _ => trivial) rfl rfl ?_
  show Ev M_X10_init 1 173 _ 0 1 ρ σ [(2, 0)] []
  show Ev _ _ _ _ 0 1 _ _ [(2, 0)] []
  refine ev_aload_n dX10_init_0 rfl (by decide) ?_
  show Ev _ _ _ _ 1 1 _ _ [(2, 0)] [(2, (0 : Int))]
  refine ev_oinit dX10_init_1 wo_X10_3 wo_i wo_c (by decide) (by decide) (by decide) ?_
  show Ev _ _ _ _ 4 1 _ _ [(2, 0)] []
  refine ev_aload_n dX10_init_4 rfl (by decide) ?_
  show Ev _ _ _ _ 5 1 _ _ [(2, 0)] [(2, (0 : Int))]
  refine ev_new dX10_init_5 cf_X0 wk_X10_9 wi_X0 wz_X0 sp1 (by decide) ?_
  show Ev _ _ _ _ 8 2 _ _ [(2, 0)] [(2, (1 : Int)), (2, (0 : Int))]
  refine ev_dup dX10_init_8 (show (2 : Nat) ≠ 1 by decide) ?_
  show Ev _ _ _ _ 9 2 _ _ [(2, 0)] [(2, (1 : Int)), (2, (1 : Int)), (2, (0 : Int))]
  refine ev_invIN (k := 1) (av := []) (st := [(2, (1 : Int)), (2, (0 : Int))]) dX10_init_9 ml_X10_11 mi_X0_init rfl (by decide) rfl rfl ⟨Nat.le_of_ble_eq_true rfl, Nat.le_of_ble_eq_true rfl⟩ (Nat.le_of_ble_eq_true rfl) (c_X0_init_2 _ _) ⟨by decide, by decide⟩ ?_
  show Ev _ _ _ _ 12 10 (rc_X0_init_2 _) (sc_X0_init_2 _) _ _
  show Ev _ _ _ _ 12 10 _ _ [(2, 0)] [(2, (1 : Int)), (2, (0 : Int))]
  refine ev_putrF (j := 0) dX10_init_12 cf_X10 wf_X10_12 sp0 (by decide) (by decide) rfl rfl rfl rfl (fun z => absurd z (by decide +kernel)) ?_
  show Ev _ _ _ _ 15 10 _ _ [(2, 0)] []
  refine ev_aload_n dX10_init_15 rfl (by decide) ?_
  show Ev _ _ _ _ 16 10 _ _ [(2, 0)] [(2, (0 : Int))]
  refine ev_new dX10_init_16 cf_X0 wk_X10_9 wi_X0 wz_X0 sp10 (by decide) ?_
  show Ev _ _ _ _ 19 11 _ _ [(2, 0)] [(2, (10 : Int)), (2, (0 : Int))]
  refine ev_dup dX10_init_19 (show (2 : Nat) ≠ 1 by decide) ?_
  show Ev _ _ _ _ 20 11 _ _ [(2, 0)] [(2, (10 : Int)), (2, (10 : Int)), (2, (0 : Int))]
  refine ev_invIN (k := 10) (av := []) (st := [(2, (10 : Int)), (2, (0 : Int))]) dX10_init_20 ml_X10_11 mi_X0_init rfl (by decide) rfl rfl ⟨Nat.le_of_ble_eq_true rfl, Nat.le_of_ble_eq_true rfl⟩ (Nat.le_of_ble_eq_true rfl) (c_X0_init_11 _ _) ⟨by decide, by decide⟩ ?_
  show Ev _ _ _ _ 23 19 (rc_X0_init_11 _) (sc_X0_init_11 _) _ _
  show Ev _ _ _ _ 23 19 _ _ [(2, 0)] [(2, (10 : Int)), (2, (0 : Int))]
  refine ev_putrF (j := 1) dX10_init_23 cf_X10 wf_X10_16 sp0 (by decide) (by decide) rfl rfl rfl rfl (fun z => absurd z (by decide +kernel)) ?_
  show Ev _ _ _ _ 26 19 _ _ [(2, 0)] []
  refine ev_aload_n dX10_init_26 rfl (by decide) ?_
  show Ev _ _ _ _ 27 19 _ _ [(2, 0)] [(2, (0 : Int))]
  refine ev_new dX10_init_27 cf_X0 wk_X10_9 wi_X0 wz_X0 sp19 (by decide) ?_
  show Ev _ _ _ _ 30 20 _ _ [(2, 0)] [(2, (19 : Int)), (2, (0 : Int))]
  refine ev_dup dX10_init_30 (show (2 : Nat) ≠ 1 by decide) ?_
  show Ev _ _ _ _ 31 20 _ _ [(2, 0)] [(2, (19 : Int)), (2, (19 : Int)), (2, (0 : Int))]
  refine ev_invIN (k := 19) (av := []) (st := [(2, (19 : Int)), (2, (0 : Int))]) dX10_init_31 ml_X10_11 mi_X0_init rfl (by decide) rfl rfl ⟨Nat.le_of_ble_eq_true rfl, Nat.le_of_ble_eq_true rfl⟩ (Nat.le_of_ble_eq_true rfl) (c_X0_init_20 _ _) ⟨by decide, by decide⟩ ?_
  show Ev _ _ _ _ 34 28 (rc_X0_init_20 _) (sc_X0_init_20 _) _ _
  show Ev _ _ _ _ 34 28 _ _ [(2, 0)] [(2, (19 : Int)), (2, (0 : Int))]
  refine ev_putrF (j := 2) dX10_init_34 cf_X10 wf_X10_19 sp0 (by decide) (by decide) rfl rfl rfl rfl (fun z => absurd z (by decide +kernel)) ?_
  show Ev _ _ _ _ 37 28 _ _ [(2, 0)] []
  refine ev_aload_n dX10_init_37 rfl (by decide) ?_
  show Ev _ _ _ _ 38 28 _ _ [(2, 0)] [(2, (0 : Int))]
  refine ev_new dX10_init_38 cf_X7 wk_X10_22 wi_X7 wz_X7 sp28 (by decide) ?_
  show Ev _ _ _ _ 41 29 _ _ [(2, 0)] [(2, (28 : Int)), (2, (0 : Int))]
  refine ev_dup dX10_init_41 (show (2 : Nat) ≠ 1 by decide) ?_
  show Ev _ _ _ _ 42 29 _ _ [(2, 0)] [(2, (28 : Int)), (2, (28 : Int)), (2, (0 : Int))]
  refine ev_invIN (k := 28) (av := []) (st := [(2, (28 : Int)), (2, (0 : Int))]) dX10_init_42 ml_X10_24 mi_X7_init rfl (by decide) rfl rfl ⟨Nat.le_of_ble_eq_true rfl, Nat.le_of_ble_eq_true rfl⟩ (Nat.le_of_ble_eq_true rfl) (c_X7_init_29 _ _) ⟨by decide, by decide⟩ ?_
  show Ev _ _ _ _ 45 30 (rc_X7_init_29 _) (sc_X7_init_29 _) _ _
  show Ev _ _ _ _ 45 30 _ _ [(2, 0)] [(2, (28 : Int)), (2, (0 : Int))]
  refine ev_putrF (j := 4) dX10_init_45 cf_X10 wf_X10_25 sp0 (by decide) (by decide) rfl rfl rfl rfl (fun z => absurd z (by decide +kernel)) ?_
  show Ev _ _ _ _ 48 30 _ _ [(2, 0)] []
  refine ev_aload_n dX10_init_48 rfl (by decide) ?_
  show Ev _ _ _ _ 49 30 _ _ [(2, 0)] [(2, (0 : Int))]
  refine ev_new dX10_init_49 cf_X6 wk_X10_29 wi_X6 wz_X6 sp30 (by decide) ?_
  show Ev _ _ _ _ 52 31 _ _ [(2, 0)] [(2, (30 : Int)), (2, (0 : Int))]
  refine ev_dup dX10_init_52 (show (2 : Nat) ≠ 1 by decide) ?_
  show Ev _ _ _ _ 53 31 _ _ [(2, 0)] [(2, (30 : Int)), (2, (30 : Int)), (2, (0 : Int))]
  refine ev_invIN (k := 30) (av := []) (st := [(2, (30 : Int)), (2, (0 : Int))]) dX10_init_53 ml_X10_31 mi_X6_init rfl (by decide) rfl rfl ⟨Nat.le_of_ble_eq_true rfl, Nat.le_of_ble_eq_true rfl⟩ (Nat.le_of_ble_eq_true rfl) (c_X6_init_31 _ _) ⟨by decide, by decide⟩ ?_
  show Ev _ _ _ _ 56 34 (rc_X6_init_31 _) (sc_X6_init_31 _) _ _
  show Ev _ _ _ _ 56 34 _ _ [(2, 0)] [(2, (30 : Int)), (2, (0 : Int))]
  refine ev_putrF (j := 5) dX10_init_56 cf_X10 wf_X10_32 sp0 (by decide) (by decide) rfl rfl rfl rfl (fun z => absurd z (by decide +kernel)) ?_
  show Ev _ _ _ _ 59 34 _ _ [(2, 0)] []
  refine ev_aload_n dX10_init_59 rfl (by decide) ?_
  show Ev _ _ _ _ 60 34 _ _ [(2, 0)] [(2, (0 : Int))]
  refine ev_iconst dX10_init_60 (by decide) ?_
  show Ev _ _ _ _ 61 34 _ _ [(2, 0)] [(0, (5 : Int)), (2, (0 : Int))]
  refine ev_newi (N := 5) dX10_init_61 wyint sp34 (by decide) (by decide) ?_
  show Ev _ _ _ _ 63 35 _ _ [(2, 0)] [(2, (34 : Int)), (2, (0 : Int))]
  refine ev_putrF (j := 6) dX10_init_63 cf_X10 wf_X10_36 sp0 (by decide) (by decide) rfl rfl rfl rfl (fun z => absurd z (by decide +kernel)) ?_
  show Ev _ _ _ _ 66 35 _ _ [(2, 0)] []
  refine ev_aload_n dX10_init_66 rfl (by decide) ?_
  show Ev _ _ _ _ 67 35 _ _ [(2, 0)] [(2, (0 : Int))]
  refine ev_new dX10_init_67 cf_X4 wk_X10_40 wi_X4 wz_X4 sp35 (by decide) ?_
  show Ev _ _ _ _ 70 36 _ _ [(2, 0)] [(2, (35 : Int)), (2, (0 : Int))]
  refine ev_dup dX10_init_70 (show (2 : Nat) ≠ 1 by decide) ?_
  show Ev _ _ _ _ 71 36 _ _ [(2, 0)] [(2, (35 : Int)), (2, (35 : Int)), (2, (0 : Int))]
  refine ev_invIN (k := 35) (av := []) (st := [(2, (35 : Int)), (2, (0 : Int))]) dX10_init_71 ml_X10_42 mi_X4_init rfl (by decide) rfl rfl ⟨Nat.le_of_ble_eq_true rfl, Nat.le_of_ble_eq_true rfl⟩ (Nat.le_of_ble_eq_true rfl) (c_X4_init_36 _ _) ⟨by decide, by decide⟩ ?_
  show Ev _ _ _ _ 74 43 (rc_X4_init_36 _) (sc_X4_init_36 _) _ _
  show Ev _ _ _ _ 74 43 _ _ [(2, 0)] [(2, (35 : Int)), (2, (0 : Int))]
  refine ev_putrF (j := 7) dX10_init_74 cf_X10 wf_X10_43 sp0 (by decide) (by decide) rfl rfl rfl rfl (fun z => absurd z (by decide +kernel)) ?_
  show Ev _ _ _ _ 77 43 _ _ [(2, 0)] []
  refine ev_aload_n dX10_init_77 rfl (by decide) ?_
  show Ev _ _ _ _ 78 43 _ _ [(2, 0)] [(2, (0 : Int))]
  refine ev_new dX10_init_78 cf_X9 wk_X10_47 wi_X9 wz_X9 sp43 (by decide) ?_
  show Ev _ _ _ _ 81 44 _ _ [(2, 0)] [(2, (43 : Int)), (2, (0 : Int))]
  refine ev_dup dX10_init_81 (show (2 : Nat) ≠ 1 by decide) ?_
  show Ev _ _ _ _ 82 44 _ _ [(2, 0)] [(2, (43 : Int)), (2, (43 : Int)), (2, (0 : Int))]
  refine ev_aload_n dX10_init_82 rfl (by decide) ?_
  show Ev _ _ _ _ 83 44 _ _ [(2, 0)] [(2, (0 : Int)), (2, (43 : Int)), (2, (43 : Int)), (2, (0 : Int))]
  refine ev_getf (j := 0) (t := 2) (x := (1 : Int)) dX10_init_83 cf_X10 wf_X10_12 sp0 (by decide) (by decide) rfl (by decide) rfl ?_
  show Ev _ _ _ _ 86 44 _ _ [(2, 0)] [(2, (1 : Int)), (2, (43 : Int)), (2, (43 : Int)), (2, (0 : Int))]
  refine ev_aload_n dX10_init_86 rfl (by decide) ?_
  show Ev _ _ _ _ 87 44 _ _ [(2, 0)] [(2, (0 : Int)), (2, (1 : Int)), (2, (43 : Int)), (2, (43 : Int)), (2, (0 : Int))]
  refine ev_getf (j := 7) (t := 2) (x := (35 : Int)) dX10_init_87 cf_X10 wf_X10_43 sp0 (by decide) (by decide) rfl (by decide) rfl ?_
  show Ev _ _ _ _ 90 44 _ _ [(2, 0)] [(2, (35 : Int)), (2, (1 : Int)), (2, (43 : Int)), (2, (43 : Int)), (2, (0 : Int))]
  refine ev_invI (k := 43) (av := [(2, 1), (2, 35)]) (st := [(2, (43 : Int)), (2, (0 : Int))]) dX10_init_90 ml_X10_49 mi_X9_init rfl (by decide) rfl rfl ⟨Nat.le_of_ble_eq_true rfl, Nat.le_of_ble_eq_true rfl⟩ (Nat.le_of_ble_eq_true rfl) (c_X9_init_44 _ _) ⟨by decide, by decide⟩ ?_
  show Ev _ _ _ _ 93 146 (rc_X9_init_44 _) (sc_X9_init_44 _) _ _
  show Ev _ _ _ _ 93 146 _ _ [(2, 0)] [(2, (43 : Int)), (2, (0 : Int))]
  refine ev_putrF (j := 8) dX10_init_93 cf_X10 wf_X10_52 sp0 (by decide) (by decide) rfl rfl rfl rfl (fun z => absurd z (by decide +kernel)) ?_
  show Ev _ _ _ _ 96 146 _ _ [(2, 0)] []
  refine ev_aload_n dX10_init_96 rfl (by decide) ?_
  show Ev _ _ _ _ 97 146 _ _ [(2, 0)] [(2, (0 : Int))]
  refine ev_new dX10_init_97 cf_X8 wk_X10_56 wi_X8 wz_X8 sp146 (by decide) ?_
  show Ev _ _ _ _ 100 147 _ _ [(2, 0)] [(2, (146 : Int)), (2, (0 : Int))]
  refine ev_dup dX10_init_100 (show (2 : Nat) ≠ 1 by decide) ?_
  show Ev _ _ _ _ 101 147 _ _ [(2, 0)] [(2, (146 : Int)), (2, (146 : Int)), (2, (0 : Int))]
  refine ev_invIN (k := 146) (av := []) (st := [(2, (146 : Int)), (2, (0 : Int))]) dX10_init_101 ml_X10_58 mi_X8_init rfl (by decide) rfl rfl ⟨Nat.le_of_ble_eq_true rfl, Nat.le_of_ble_eq_true rfl⟩ (Nat.le_of_ble_eq_true rfl) (c_X8_init_147 _ _) ⟨by decide, by decide⟩ ?_
  show Ev _ _ _ _ 104 156 (rc_X8_init_147 _) (sc_X8_init_147 _) _ _
  show Ev _ _ _ _ 104 156 _ _ [(2, 0)] [(2, (146 : Int)), (2, (0 : Int))]
  refine ev_putrF (j := 9) dX10_init_104 cf_X10 wf_X10_59 sp0 (by decide) (by decide) rfl rfl rfl rfl (fun z => absurd z (by decide +kernel)) ?_
  show Ev _ _ _ _ 107 156 _ _ [(2, 0)] []
  refine ev_aload_n dX10_init_107 rfl (by decide) ?_
  show Ev _ _ _ _ 108 156 _ _ [(2, 0)] [(2, (0 : Int))]
  refine ev_new dX10_init_108 cf_X1 wk_X10_63 wi_X1 wz_X1 sp156 (by decide) ?_
  show Ev _ _ _ _ 111 157 _ _ [(2, 0)] [(2, (156 : Int)), (2, (0 : Int))]
  refine ev_dup dX10_init_111 (show (2 : Nat) ≠ 1 by decide) ?_
  show Ev _ _ _ _ 112 157 _ _ [(2, 0)] [(2, (156 : Int)), (2, (156 : Int)), (2, (0 : Int))]
  refine ev_invIN (k := 156) (av := []) (st := [(2, (156 : Int)), (2, (0 : Int))]) dX10_init_112 ml_X10_65 mi_X1_init rfl (by decide) rfl rfl ⟨Nat.le_of_ble_eq_true rfl, Nat.le_of_ble_eq_true rfl⟩ (Nat.le_of_ble_eq_true rfl) (c_X1_init_157 _ _) ⟨by decide, by decide⟩ ?_
  show Ev _ _ _ _ 115 163 (rc_X1_init_157 _) (sc_X1_init_157 _) _ _
  show Ev _ _ _ _ 115 163 _ _ [(2, 0)] [(2, (156 : Int)), (2, (0 : Int))]
  refine ev_putrF (j := 10) dX10_init_115 cf_X10 wf_X10_66 sp0 (by decide) (by decide) rfl rfl rfl rfl (fun z => absurd z (by decide +kernel)) ?_
  show Ev _ _ _ _ 118 163 _ _ [(2, 0)] []
  refine ev_aload_n dX10_init_118 rfl (by decide) ?_
  show Ev _ _ _ _ 119 163 _ _ [(2, 0)] [(2, (0 : Int))]
  refine ev_new dX10_init_119 cf_X5 wk_X10_70 wi_X5 wz_X5 sp163 (by decide) ?_
  show Ev _ _ _ _ 122 164 _ _ [(2, 0)] [(2, (163 : Int)), (2, (0 : Int))]
  refine ev_dup dX10_init_122 (show (2 : Nat) ≠ 1 by decide) ?_
  show Ev _ _ _ _ 123 164 _ _ [(2, 0)] [(2, (163 : Int)), (2, (163 : Int)), (2, (0 : Int))]
  refine ev_invIN (k := 163) (av := []) (st := [(2, (163 : Int)), (2, (0 : Int))]) dX10_init_123 ml_X10_72 mi_X5_init rfl (by decide) rfl rfl ⟨Nat.le_of_ble_eq_true rfl, Nat.le_of_ble_eq_true rfl⟩ (Nat.le_of_ble_eq_true rfl) (c_X5_init_164 _ _) ⟨by decide, by decide⟩ ?_
  show Ev _ _ _ _ 126 171 (rc_X5_init_164 _) (sc_X5_init_164 _) _ _
  show Ev _ _ _ _ 126 171 _ _ [(2, 0)] [(2, (163 : Int)), (2, (0 : Int))]
  refine ev_putrF (j := 11) dX10_init_126 cf_X10 wf_X10_73 sp0 (by decide) (by decide) rfl rfl rfl rfl (fun z => absurd z (by decide +kernel)) ?_
  show Ev _ _ _ _ 129 171 _ _ [(2, 0)] []
  refine ev_aload_n dX10_init_129 rfl (by decide) ?_
  show Ev _ _ _ _ 130 171 _ _ [(2, 0)] [(2, (0 : Int))]
  refine ev_bipush dX10_init_130 (by decide) (by decide) ?_
  show Ev _ _ _ _ 132 171 _ _ [(2, 0)] [(0, (48 : Int)), (2, (0 : Int))]
  refine ev_newi (N := 48) dX10_init_132 wyint sp171 (by decide) (by decide) ?_
  show Ev _ _ _ _ 134 172 _ _ [(2, 0)] [(2, (171 : Int)), (2, (0 : Int))]
  refine ev_putrF (j := 12) dX10_init_134 cf_X10 wf_X10_77 sp0 (by decide) (by decide) rfl rfl rfl rfl (fun z => absurd z (by decide +kernel)) ?_
  show Ev _ _ _ _ 137 172 _ _ [(2, 0)] []
  refine ev_aload_n dX10_init_137 rfl (by decide) ?_
  show Ev _ _ _ _ 138 172 _ _ [(2, 0)] [(2, (0 : Int))]
  refine ev_bipush dX10_init_138 (by decide) (by decide) ?_
  show Ev _ _ _ _ 140 172 _ _ [(2, 0)] [(0, (48 : Int)), (2, (0 : Int))]
  refine ev_newi (N := 48) dX10_init_140 wyint sp172 (by decide) (by decide) ?_
  show Ev _ _ _ _ 142 173 _ _ [(2, 0)] [(2, (172 : Int)), (2, (0 : Int))]
  refine ev_putrF (j := 13) dX10_init_142 cf_X10 wf_X10_80 sp0 (by decide) (by decide) rfl rfl rfl rfl (fun z => absurd z (by decide +kernel)) ?_
  show Ev _ _ _ _ 145 173 _ _ [(2, 0)] []
  exact ev_vret dX10_init_145 rfl rfl
def rc_X11_init_174 (ρ : Mem) : Mem := (mup (mup (mup (mup (mup (mup (mup (mup (mup (mup (mup (mup (mup (mup (mup (mup (mup (mup (mup (mup (mup (mup (mup (mup (mup (mup (mup (mup (mup (mup (mup (mup (mup (mup (mup (mup ρ 173 0 174) 173 1 175) 173 3 176) 173 4 177) 173 5 178) 173 6 179) 173 7 180) 173 8 181) 173 14 182) 173 15 183) 173 16 184) 173 17 185) 173 18 186) 173 19 187) 173 20 188) 173 21 189) 173 22 190) 173 23 191) 173 24 192) 173 25 193) 173 26 194) 173 27 195) 173 28 196) 173 30 197) 173 31 198) 173 32 199) 173 33 200) 173 34 201) 173 36 202) 173 38 203) 173 39 204) 173 40 205) 173 41 206) 173 42 207) 173 43 208) 173 44 209)
def sc_X11_init_174 (σ : Mem) : Mem := (mup (mup (mup (mup (mup (mup (mup (mup (mup (mup (mup (mup (mup (mup (mup (mup (mup (mup (mup (mup (mup (mup (mup (mup (mup (mup (mup (mup (mup (mup (mup (mup (mup (mup (mup (mup (mup (mup (mup (mup (mup (mup (mup (mup (mup (mup (mup (mup (mup (mup (mup σ 177 0 (-1)) 177 1 (-1)) 177 2 (-1)) 177 3 (-1)) 177 4 (-1)) 177 5 (-1)) 177 6 (-1)) 177 7 (-1)) 182 0 (112)) 182 1 (97)) 182 2 (112)) 182 3 (101)) 182 4 (114)) 182 5 (99)) 182 6 (97)) 182 7 (110)) 182 8 (100)) 182 9 (32)) 182 10 (116)) 182 11 (97)) 182 12 (107)) 182 13 (101)) 182 14 (115)) 182 15 (100)) 182 16 (114)) 182 17 (111)) 182 18 (112)) 182 19 (115)) 182 20 (110)) 182 21 (105)) 182 22 (103)) 182 23 (104)) 182 24 (116)) 182 25 (114)) 182 26 (111)) 182 27 (111)) 182 28 (109)) 182 29 (32)) 182 30 (104)) 182 31 (111)) 182 32 (117)) 182 33 (114)) 182 34 (115)) 182 35 (116)) 182 36 (117)) 182 37 (114)) 182 38 (110)) 182 39 (32)) 174 85 (24)) 174 86 (1)) 174 87 (1))
set_option maxHeartbeats 4000000 in
set_option maxRecDepth 20000 in
theorem c_X11_init_174 (ρ σ : Mem) : Ms yX11_init M_X11_init 174 210 [(2, 173)] ρ σ (none, rc_X11_init_174 ρ, sc_X11_init_174 σ) := by
  refine Ms.of 0 (by decide +kernel) rfl (fun _ => rfl) (fun _ _ _ => trivial) rfl rfl ?_
  show Ev M_X11_init 174 210 _ 0 174 ρ σ [(2, 173)] []
  show Ev _ _ _ _ 0 174 _ _ [(2, 173)] []
  refine ev_aload_n dX11_init_0 rfl (by decide) ?_
  show Ev _ _ _ _ 1 174 _ _ [(2, 173)] [(2, (173 : Int))]
  refine ev_oinit dX11_init_1 wo_X11_1 wo_i wo_c (by decide) (by decide) (by decide) ?_
  show Ev _ _ _ _ 4 174 _ _ [(2, 173)] []
  refine ev_aload_n dX11_init_4 rfl (by decide) ?_
  show Ev _ _ _ _ 5 174 _ _ [(2, 173)] [(2, (173 : Int))]
  refine ev_bipush dX11_init_5 (by decide) (by decide) ?_
  show Ev _ _ _ _ 7 174 _ _ [(2, 173)] [(0, (88 : Int)), (2, (173 : Int))]
  refine ev_newi (N := 88) dX11_init_7 wyint sp174 (by decide) (by decide) ?_
  show Ev _ _ _ _ 9 175 _ _ [(2, 173)] [(2, (174 : Int)), (2, (173 : Int))]
  refine ev_putrF (j := 0) dX11_init_9 cf_X11 wf_X11_7 sp173 (by decide) (by decide) rfl rfl rfl rfl (fun z => absurd z (by decide +kernel)) ?_
  show Ev _ _ _ _ 12 175 _ _ [(2, 173)] []
  refine ev_aload_n dX11_init_12 rfl (by decide) ?_
  show Ev _ _ _ _ 13 175 _ _ [(2, 173)] [(2, (173 : Int))]
  refine ev_bipush dX11_init_13 (by decide) (by decide) ?_
  show Ev _ _ _ _ 15 175 _ _ [(2, 173)] [(0, (88 : Int)), (2, (173 : Int))]
  refine ev_newi (N := 88) dX11_init_15 wyint sp175 (by decide) (by decide) ?_
  show Ev _ _ _ _ 17 176 _ _ [(2, 173)] [(2, (175 : Int)), (2, (173 : Int))]
  refine ev_putrF (j := 1) dX11_init_17 cf_X11 wf_X11_13 sp173 (by decide) (by decide) rfl rfl rfl rfl (fun z => absurd z (by decide +kernel)) ?_
  show Ev _ _ _ _ 20 176 _ _ [(2, 173)] []
  refine ev_aload_n dX11_init_20 rfl (by decide) ?_
  show Ev _ _ _ _ 21 176 _ _ [(2, 173)] [(2, (173 : Int))]
  refine ev_iconst dX11_init_21 (by decide) ?_
  show Ev _ _ _ _ 22 176 _ _ [(2, 173)] [(0, (5 : Int)), (2, (173 : Int))]
  refine ev_newi (N := 5) dX11_init_22 wyint sp176 (by decide) (by decide) ?_
  show Ev _ _ _ _ 24 177 _ _ [(2, 173)] [(2, (176 : Int)), (2, (173 : Int))]
  refine ev_putrF (j := 3) dX11_init_24 cf_X11 wf_X11_16 sp173 (by decide) (by decide) rfl rfl rfl rfl (fun z => absurd z (by decide +kernel)) ?_
  show Ev _ _ _ _ 27 177 _ _ [(2, 173)] []
  refine ev_aload_n dX11_init_27 rfl (by decide) ?_
  show Ev _ _ _ _ 28 177 _ _ [(2, 173)] [(2, (173 : Int))]
  refine ev_bipush dX11_init_28 (by decide) (by decide) ?_
  show Ev _ _ _ _ 30 177 _ _ [(2, 173)] [(0, (8 : Int)), (2, (173 : Int))]
  refine ev_newi (N := 8) dX11_init_30 wyint sp177 (by decide) (by decide) ?_
  show Ev _ _ _ _ 32 178 _ _ [(2, 173)] [(2, (177 : Int)), (2, (173 : Int))]
  refine ev_dup dX11_init_32 (show (2 : Nat) ≠ 1 by decide) ?_
  show Ev _ _ _ _ 33 178 _ _ [(2, 173)] [(2, (177 : Int)), (2, (177 : Int)), (2, (173 : Int))]
  refine ev_iconst dX11_init_33 (by decide) ?_
  show Ev _ _ _ _ 34 178 _ _ [(2, 173)] [(0, (0 : Int)), (2, (177 : Int)), (2, (177 : Int)), (2, (173 : Int))]
  refine ev_iconst dX11_init_34 (by decide) ?_
  show Ev _ _ _ _ 35 178 _ _ [(2, 173)] [(0, (-1 : Int)), (0, (0 : Int)), (2, (177 : Int)), (2, (177 : Int)), (2, (173 : Int))]
  refine ev_iast (X := some ()) (q := ()) dX11_init_35 sp177 (by decide) (by decide) (chk_pos ⟨by decide, by decide⟩) (fun _ => ?_)
  show Ev _ _ _ _ 36 178 _ _ [(2, 173)] [(2, (177 : Int)), (2, (173 : Int))]
  refine ev_dup dX11_init_36 (show (2 : Nat) ≠ 1 by decide) ?_
  show Ev _ _ _ _ 37 178 _ _ [(2, 173)] [(2, (177 : Int)), (2, (177 : Int)), (2, (173 : Int))]
  refine ev_iconst dX11_init_37 (by decide) ?_
  show Ev _ _ _ _ 38 178 _ _ [(2, 173)] [(0, (1 : Int)), (2, (177 : Int)), (2, (177 : Int)), (2, (173 : Int))]
  refine ev_iconst dX11_init_38 (by decide) ?_
  show Ev _ _ _ _ 39 178 _ _ [(2, 173)] [(0, (-1 : Int)), (0, (1 : Int)), (2, (177 : Int)), (2, (177 : Int)), (2, (173 : Int))]
  refine ev_iast (X := some ()) (q := ()) dX11_init_39 sp177 (by decide) (by decide) (chk_pos ⟨by decide, by decide⟩) (fun _ => ?_)
  show Ev _ _ _ _ 40 178 _ _ [(2, 173)] [(2, (177 : Int)), (2, (173 : Int))]
  refine ev_dup dX11_init_40 (show (2 : Nat) ≠ 1 by decide) ?_
  show Ev _ _ _ _ 41 178 _ _ [(2, 173)] [(2, (177 : Int)), (2, (177 : Int)), (2, (173 : Int))]
  refine ev_iconst dX11_init_41 (by decide) ?_
  show Ev _ _ _ _ 42 178 _ _ [(2, 173)] [(0, (2 : Int)), (2, (177 : Int)), (2, (177 : Int)), (2, (173 : Int))]
  refine ev_iconst dX11_init_42 (by decide) ?_
  show Ev _ _ _ _ 43 178 _ _ [(2, 173)] [(0, (-1 : Int)), (0, (2 : Int)), (2, (177 : Int)), (2, (177 : Int)), (2, (173 : Int))]
  refine ev_iast (X := some ()) (q := ()) dX11_init_43 sp177 (by decide) (by decide) (chk_pos ⟨by decide, by decide⟩) (fun _ => ?_)
  show Ev _ _ _ _ 44 178 _ _ [(2, 173)] [(2, (177 : Int)), (2, (173 : Int))]
  refine ev_dup dX11_init_44 (show (2 : Nat) ≠ 1 by decide) ?_
  show Ev _ _ _ _ 45 178 _ _ [(2, 173)] [(2, (177 : Int)), (2, (177 : Int)), (2, (173 : Int))]
  refine ev_iconst dX11_init_45 (by decide) ?_
  show Ev _ _ _ _ 46 178 _ _ [(2, 173)] [(0, (3 : Int)), (2, (177 : Int)), (2, (177 : Int)), (2, (173 : Int))]
  refine ev_iconst dX11_init_46 (by decide) ?_
  show Ev _ _ _ _ 47 178 _ _ [(2, 173)] [(0, (-1 : Int)), (0, (3 : Int)), (2, (177 : Int)), (2, (177 : Int)), (2, (173 : Int))]
  refine ev_iast (X := some ()) (q := ()) dX11_init_47 sp177 (by decide) (by decide) (chk_pos ⟨by decide, by decide⟩) (fun _ => ?_)
  show Ev _ _ _ _ 48 178 _ _ [(2, 173)] [(2, (177 : Int)), (2, (173 : Int))]
  refine ev_dup dX11_init_48 (show (2 : Nat) ≠ 1 by decide) ?_
  show Ev _ _ _ _ 49 178 _ _ [(2, 173)] [(2, (177 : Int)), (2, (177 : Int)), (2, (173 : Int))]
  refine ev_iconst dX11_init_49 (by decide) ?_
  show Ev _ _ _ _ 50 178 _ _ [(2, 173)] [(0, (4 : Int)), (2, (177 : Int)), (2, (177 : Int)), (2, (173 : Int))]
  refine ev_iconst dX11_init_50 (by decide) ?_
  show Ev _ _ _ _ 51 178 _ _ [(2, 173)] [(0, (-1 : Int)), (0, (4 : Int)), (2, (177 : Int)), (2, (177 : Int)), (2, (173 : Int))]
  refine ev_iast (X := some ()) (q := ()) dX11_init_51 sp177 (by decide) (by decide) (chk_pos ⟨by decide, by decide⟩) (fun _ => ?_)
  show Ev _ _ _ _ 52 178 _ _ [(2, 173)] [(2, (177 : Int)), (2, (173 : Int))]
  refine ev_dup dX11_init_52 (show (2 : Nat) ≠ 1 by decide) ?_
  show Ev _ _ _ _ 53 178 _ _ [(2, 173)] [(2, (177 : Int)), (2, (177 : Int)), (2, (173 : Int))]
  refine ev_iconst dX11_init_53 (by decide) ?_
  show Ev _ _ _ _ 54 178 _ _ [(2, 173)] [(0, (5 : Int)), (2, (177 : Int)), (2, (177 : Int)), (2, (173 : Int))]
  refine ev_iconst dX11_init_54 (by decide) ?_
  show Ev _ _ _ _ 55 178 _ _ [(2, 173)] [(0, (-1 : Int)), (0, (5 : Int)), (2, (177 : Int)), (2, (177 : Int)), (2, (173 : Int))]
  refine ev_iast (X := some ()) (q := ()) dX11_init_55 sp177 (by decide) (by decide) (chk_pos ⟨by decide, by decide⟩) (fun _ => ?_)
  show Ev _ _ _ _ 56 178 _ _ [(2, 173)] [(2, (177 : Int)), (2, (173 : Int))]
  refine ev_dup dX11_init_56 (show (2 : Nat) ≠ 1 by decide) ?_
  show Ev _ _ _ _ 57 178 _ _ [(2, 173)] [(2, (177 : Int)), (2, (177 : Int)), (2, (173 : Int))]
  refine ev_bipush dX11_init_57 (by decide) (by decide) ?_
  show Ev _ _ _ _ 59 178 _ _ [(2, 173)] [(0, (6 : Int)), (2, (177 : Int)), (2, (177 : Int)), (2, (173 : Int))]
  refine ev_iconst dX11_init_59 (by decide) ?_
  show Ev _ _ _ _ 60 178 _ _ [(2, 173)] [(0, (-1 : Int)), (0, (6 : Int)), (2, (177 : Int)), (2, (177 : Int)), (2, (173 : Int))]
  refine ev_iast (X := some ()) (q := ()) dX11_init_60 sp177 (by decide) (by decide) (chk_pos ⟨by decide, by decide⟩) (fun _ => ?_)
  show Ev _ _ _ _ 61 178 _ _ [(2, 173)] [(2, (177 : Int)), (2, (173 : Int))]
  refine ev_dup dX11_init_61 (show (2 : Nat) ≠ 1 by decide) ?_
  show Ev _ _ _ _ 62 178 _ _ [(2, 173)] [(2, (177 : Int)), (2, (177 : Int)), (2, (173 : Int))]
  refine ev_bipush dX11_init_62 (by decide) (by decide) ?_
  show Ev _ _ _ _ 64 178 _ _ [(2, 173)] [(0, (7 : Int)), (2, (177 : Int)), (2, (177 : Int)), (2, (173 : Int))]
  refine ev_iconst dX11_init_64 (by decide) ?_
  show Ev _ _ _ _ 65 178 _ _ [(2, 173)] [(0, (-1 : Int)), (0, (7 : Int)), (2, (177 : Int)), (2, (177 : Int)), (2, (173 : Int))]
  refine ev_iast (X := some ()) (q := ()) dX11_init_65 sp177 (by decide) (by decide) (chk_pos ⟨by decide, by decide⟩) (fun _ => ?_)
  show Ev _ _ _ _ 66 178 _ _ [(2, 173)] [(2, (177 : Int)), (2, (173 : Int))]
  refine ev_putrF (j := 4) dX11_init_66 cf_X11 wf_X11_19 sp173 (by decide) (by decide) rfl rfl rfl rfl (fun z => absurd z (by decide +kernel)) ?_
  show Ev _ _ _ _ 69 178 _ _ [(2, 173)] []
  refine ev_aload_n dX11_init_69 rfl (by decide) ?_
  show Ev _ _ _ _ 70 178 _ _ [(2, 173)] [(2, (173 : Int))]
  refine ev_bipush dX11_init_70 (by decide) (by decide) ?_
  show Ev _ _ _ _ 72 178 _ _ [(2, 173)] [(0, (8 : Int)), (2, (173 : Int))]
  refine ev_newi (N := 8) dX11_init_72 wyint sp178 (by decide) (by decide) ?_
  show Ev _ _ _ _ 74 179 _ _ [(2, 173)] [(2, (178 : Int)), (2, (173 : Int))]
  refine ev_putrF (j := 5) dX11_init_74 cf_X11 wf_X11_22 sp173 (by decide) (by decide) rfl rfl rfl rfl (fun z => absurd z (by decide +kernel)) ?_
  show Ev _ _ _ _ 77 179 _ _ [(2, 173)] []
  refine ev_aload_n dX11_init_77 rfl (by decide) ?_
  show Ev _ _ _ _ 78 179 _ _ [(2, 173)] [(2, (173 : Int))]
  refine ev_sipush dX11_init_78 (by decide) (by decide) ?_
  show Ev _ _ _ _ 81 179 _ _ [(2, 173)] [(0, (320 : Int)), (2, (173 : Int))]
  refine ev_newl (N := 320) dX11_init_81 wylong sp179 (by decide) (by decide) ?_
  show Ev _ _ _ _ 83 180 _ _ [(2, 173)] [(2, (179 : Int)), (2, (173 : Int))]
  refine ev_putrF (j := 6) dX11_init_83 cf_X11 wf_X11_25 sp173 (by decide) (by decide) rfl rfl rfl rfl (fun z => absurd z (by decide +kernel)) ?_
  show Ev _ _ _ _ 86 180 _ _ [(2, 173)] []
  refine ev_aload_n dX11_init_86 rfl (by decide) ?_
  show Ev _ _ _ _ 87 180 _ _ [(2, 173)] [(2, (173 : Int))]
  refine ev_bipush dX11_init_87 (by decide) (by decide) ?_
  show Ev _ _ _ _ 89 180 _ _ [(2, 173)] [(0, (40 : Int)), (2, (173 : Int))]
  refine ev_newl (N := 40) dX11_init_89 wylong sp180 (by decide) (by decide) ?_
  show Ev _ _ _ _ 91 181 _ _ [(2, 173)] [(2, (180 : Int)), (2, (173 : Int))]
  refine ev_putrF (j := 7) dX11_init_91 cf_X11 wf_X11_29 sp173 (by decide) (by decide) rfl rfl rfl rfl (fun z => absurd z (by decide +kernel)) ?_
  show Ev _ _ _ _ 94 181 _ _ [(2, 173)] []
  refine ev_aload_n dX11_init_94 rfl (by decide) ?_
  show Ev _ _ _ _ 95 181 _ _ [(2, 173)] [(2, (173 : Int))]
  refine ev_sipush dX11_init_95 (by decide) (by decide) ?_
  show Ev _ _ _ _ 98 181 _ _ [(2, 173)] [(0, (250 : Int)), (2, (173 : Int))]
  refine ev_newi (N := 250) dX11_init_98 wyint sp181 (by decide) (by decide) ?_
  show Ev _ _ _ _ 100 182 _ _ [(2, 173)] [(2, (181 : Int)), (2, (173 : Int))]
  refine ev_putrF (j := 8) dX11_init_100 cf_X11 wf_X11_32 sp173 (by decide) (by decide) rfl rfl rfl rfl (fun z => absurd z (by decide +kernel)) ?_
  show Ev _ _ _ _ 103 182 _ _ [(2, 173)] []
  refine ev_aload_n dX11_init_103 rfl (by decide) ?_
  show Ev _ _ _ _ 104 182 _ _ [(2, 173)] [(2, (173 : Int))]
  refine ev_bipush dX11_init_104 (by decide) (by decide) ?_
  show Ev _ _ _ _ 106 182 _ _ [(2, 173)] [(0, (40 : Int)), (2, (173 : Int))]
  refine ev_newc (N := 40) dX11_init_106 wychar sp182 (by decide) (by decide) ?_
  show Ev _ _ _ _ 108 183 _ _ [(2, 173)] [(2, (182 : Int)), (2, (173 : Int))]
  refine ev_dup dX11_init_108 (show (2 : Nat) ≠ 1 by decide) ?_
  show Ev _ _ _ _ 109 183 _ _ [(2, 173)] [(2, (182 : Int)), (2, (182 : Int)), (2, (173 : Int))]
  refine ev_iconst dX11_init_109 (by decide) ?_
  show Ev _ _ _ _ 110 183 _ _ [(2, 173)] [(0, (0 : Int)), (2, (182 : Int)), (2, (182 : Int)), (2, (173 : Int))]
  refine ev_bipush dX11_init_110 (by decide) (by decide) ?_
  show Ev _ _ _ _ 112 183 _ _ [(2, 173)] [(0, (112 : Int)), (0, (0 : Int)), (2, (182 : Int)), (2, (182 : Int)), (2, (173 : Int))]
  refine ev_cast (X := some ()) (q := ()) dX11_init_112 sp182 (by decide) (by decide) (chk_pos ⟨by decide, by decide, by decide, by decide⟩) (fun _ => ?_)
  show Ev _ _ _ _ 113 183 _ _ [(2, 173)] [(2, (182 : Int)), (2, (173 : Int))]
  refine ev_dup dX11_init_113 (show (2 : Nat) ≠ 1 by decide) ?_
  show Ev _ _ _ _ 114 183 _ _ [(2, 173)] [(2, (182 : Int)), (2, (182 : Int)), (2, (173 : Int))]
  refine ev_iconst dX11_init_114 (by decide) ?_
  show Ev _ _ _ _ 115 183 _ _ [(2, 173)] [(0, (1 : Int)), (2, (182 : Int)), (2, (182 : Int)), (2, (173 : Int))]
  refine ev_bipush dX11_init_115 (by decide) (by decide) ?_
  show Ev _ _ _ _ 117 183 _ _ [(2, 173)] [(0, (97 : Int)), (0, (1 : Int)), (2, (182 : Int)), (2, (182 : Int)), (2, (173 : Int))]
  refine ev_cast (X := some ()) (q := ()) dX11_init_117 sp182 (by decide) (by decide) (chk_pos ⟨by decide, by decide, by decide, by decide⟩) (fun _ => ?_)
  show Ev _ _ _ _ 118 183 _ _ [(2, 173)] [(2, (182 : Int)), (2, (173 : Int))]
  refine ev_dup dX11_init_118 (show (2 : Nat) ≠ 1 by decide) ?_
  show Ev _ _ _ _ 119 183 _ _ [(2, 173)] [(2, (182 : Int)), (2, (182 : Int)), (2, (173 : Int))]
  refine ev_iconst dX11_init_119 (by decide) ?_
  show Ev _ _ _ _ 120 183 _ _ [(2, 173)] [(0, (2 : Int)), (2, (182 : Int)), (2, (182 : Int)), (2, (173 : Int))]
  refine ev_bipush dX11_init_120 (by decide) (by decide) ?_
  show Ev _ _ _ _ 122 183 _ _ [(2, 173)] [(0, (112 : Int)), (0, (2 : Int)), (2, (182 : Int)), (2, (182 : Int)), (2, (173 : Int))]
  refine ev_cast (X := some ()) (q := ()) dX11_init_122 sp182 (by decide) (by decide) (chk_pos ⟨by decide, by decide, by decide, by decide⟩) (fun _ => ?_)
  show Ev _ _ _ _ 123 183 _ _ [(2, 173)] [(2, (182 : Int)), (2, (173 : Int))]
  refine ev_dup dX11_init_123 (show (2 : Nat) ≠ 1 by decide) ?_
  show Ev _ _ _ _ 124 183 _ _ [(2, 173)] [(2, (182 : Int)), (2, (182 : Int)), (2, (173 : Int))]
  refine ev_iconst dX11_init_124 (by decide) ?_
  show Ev _ _ _ _ 125 183 _ _ [(2, 173)] [(0, (3 : Int)), (2, (182 : Int)), (2, (182 : Int)), (2, (173 : Int))]
  refine ev_bipush dX11_init_125 (by decide) (by decide) ?_
  show Ev _ _ _ _ 127 183 _ _ [(2, 173)] [(0, (101 : Int)), (0, (3 : Int)), (2, (182 : Int)), (2, (182 : Int)), (2, (173 : Int))]
  refine ev_cast (X := some ()) (q := ()) dX11_init_127 sp182 (by decide) (by decide) (chk_pos ⟨by decide, by decide, by decide, by decide⟩) (fun _ => ?_)
  show Ev _ _ _ _ 128 183 _ _ [(2, 173)] [(2, (182 : Int)), (2, (173 : Int))]
  refine ev_dup dX11_init_128 (show (2 : Nat) ≠ 1 by decide) ?_
  show Ev _ _ _ _ 129 183 _ _ [(2, 173)] [(2, (182 : Int)), (2, (182 : Int)), (2, (173 : Int))]
  refine ev_iconst dX11_init_129 (by decide) ?_
  show Ev _ _ _ _ 130 183 _ _ [(2, 173)] [(0, (4 : Int)), (2, (182 : Int)), (2, (182 : Int)), (2, (173 : Int))]
  refine ev_bipush dX11_init_130 (by decide) (by decide) ?_
  show Ev _ _ _ _ 132 183 _ _ [(2, 173)] [(0, (114 : Int)), (0, (4 : Int)), (2, (182 : Int)), (2, (182 : Int)), (2, (173 : Int))]
  refine ev_cast (X := some ()) (q := ()) dX11_init_132 sp182 (by decide) (by decide) (chk_pos ⟨by decide, by decide, by decide, by decide⟩) (fun _ => ?_)
  show Ev _ _ _ _ 133 183 _ _ [(2, 173)] [(2, (182 : Int)), (2, (173 : Int))]
  refine ev_dup dX11_init_133 (show (2 : Nat) ≠ 1 by decide) ?_
  show Ev _ _ _ _ 134 183 _ _ [(2, 173)] [(2, (182 : Int)), (2, (182 : Int)), (2, (173 : Int))]
  refine ev_iconst dX11_init_134 (by decide) ?_
  show Ev _ _ _ _ 135 183 _ _ [(2, 173)] [(0, (5 : Int)), (2, (182 : Int)), (2, (182 : Int)), (2, (173 : Int))]
  refine ev_bipush dX11_init_135 (by decide) (by decide) ?_
  show Ev _ _ _ _ 137 183 _ _ [(2, 173)] [(0, (99 : Int)), (0, (5 : Int)), (2, (182 : Int)), (2, (182 : Int)), (2, (173 : Int))]
  refine ev_cast (X := some ()) (q := ()) dX11_init_137 sp182 (by decide) (by decide) (chk_pos ⟨by decide, by decide, by decide, by decide⟩) (fun _ => ?_)
  show Ev _ _ _ _ 138 183 _ _ [(2, 173)] [(2, (182 : Int)), (2, (173 : Int))]
  refine ev_dup dX11_init_138 (show (2 : Nat) ≠ 1 by decide) ?_
  show Ev _ _ _ _ 139 183 _ _ [(2, 173)] [(2, (182 : Int)), (2, (182 : Int)), (2, (173 : Int))]
  refine ev_bipush dX11_init_139 (by decide) (by decide) ?_
  show Ev _ _ _ _ 141 183 _ _ [(2, 173)] [(0, (6 : Int)), (2, (182 : Int)), (2, (182 : Int)), (2, (173 : Int))]
  refine ev_bipush dX11_init_141 (by decide) (by decide) ?_
  show Ev _ _ _ _ 143 183 _ _ [(2, 173)] [(0, (97 : Int)), (0, (6 : Int)), (2, (182 : Int)), (2, (182 : Int)), (2, (173 : Int))]
  refine ev_cast (X := some ()) (q := ()) dX11_init_143 sp182 (by decide) (by decide) (chk_pos ⟨by decide, by decide, by decide, by decide⟩) (fun _ => ?_)
  show Ev _ _ _ _ 144 183 _ _ [(2, 173)] [(2, (182 : Int)), (2, (173 : Int))]
  refine ev_dup dX11_init_144 (show (2 : Nat) ≠ 1 by decide) ?_
  show Ev _ _ _ _ 145 183 _ _ [(2, 173)] [(2, (182 : Int)), (2, (182 : Int)), (2, (173 : Int))]
  refine ev_bipush dX11_init_145 (by decide) (by decide) ?_
  show Ev _ _ _ _ 147 183 _ _ [(2, 173)] [(0, (7 : Int)), (2, (182 : Int)), (2, (182 : Int)), (2, (173 : Int))]
  refine ev_bipush dX11_init_147 (by decide) (by decide) ?_
  show Ev _ _ _ _ 149 183 _ _ [(2, 173)] [(0, (110 : Int)), (0, (7 : Int)), (2, (182 : Int)), (2, (182 : Int)), (2, (173 : Int))]
  refine ev_cast (X := some ()) (q := ()) dX11_init_149 sp182 (by decide) (by decide) (chk_pos ⟨by decide, by decide, by decide, by decide⟩) (fun _ => ?_)
  show Ev _ _ _ _ 150 183 _ _ [(2, 173)] [(2, (182 : Int)), (2, (173 : Int))]
  refine ev_dup dX11_init_150 (show (2 : Nat) ≠ 1 by decide) ?_
  show Ev _ _ _ _ 151 183 _ _ [(2, 173)] [(2, (182 : Int)), (2, (182 : Int)), (2, (173 : Int))]
  refine ev_bipush dX11_init_151 (by decide) (by decide) ?_
  show Ev _ _ _ _ 153 183 _ _ [(2, 173)] [(0, (8 : Int)), (2, (182 : Int)), (2, (182 : Int)), (2, (173 : Int))]
  refine ev_bipush dX11_init_153 (by decide) (by decide) ?_
  show Ev _ _ _ _ 155 183 _ _ [(2, 173)] [(0, (100 : Int)), (0, (8 : Int)), (2, (182 : Int)), (2, (182 : Int)), (2, (173 : Int))]
  refine ev_cast (X := some ()) (q := ()) dX11_init_155 sp182 (by decide) (by decide) (chk_pos ⟨by decide, by decide, by decide, by decide⟩) (fun _ => ?_)
  show Ev _ _ _ _ 156 183 _ _ [(2, 173)] [(2, (182 : Int)), (2, (173 : Int))]
  refine ev_dup dX11_init_156 (show (2 : Nat) ≠ 1 by decide) ?_
  show Ev _ _ _ _ 157 183 _ _ [(2, 173)] [(2, (182 : Int)), (2, (182 : Int)), (2, (173 : Int))]
  refine ev_bipush dX11_init_157 (by decide) (by decide) ?_
  show Ev _ _ _ _ 159 183 _ _ [(2, 173)] [(0, (9 : Int)), (2, (182 : Int)), (2, (182 : Int)), (2, (173 : Int))]
  refine ev_bipush dX11_init_159 (by decide) (by decide) ?_
  show Ev _ _ _ _ 161 183 _ _ [(2, 173)] [(0, (32 : Int)), (0, (9 : Int)), (2, (182 : Int)), (2, (182 : Int)), (2, (173 : Int))]
  refine ev_cast (X := some ()) (q := ()) dX11_init_161 sp182 (by decide) (by decide) (chk_pos ⟨by decide, by decide, by decide, by decide⟩) (fun _ => ?_)
  show Ev _ _ _ _ 162 183 _ _ [(2, 173)] [(2, (182 : Int)), (2, (173 : Int))]
  refine ev_dup dX11_init_162 (show (2 : Nat) ≠ 1 by decide) ?_
  show Ev _ _ _ _ 163 183 _ _ [(2, 173)] [(2, (182 : Int)), (2, (182 : Int)), (2, (173 : Int))]
  refine ev_bipush dX11_init_163 (by decide) (by decide) ?_
  show Ev _ _ _ _ 165 183 _ _ [(2, 173)] [(0, (10 : Int)), (2, (182 : Int)), (2, (182 : Int)), (2, (173 : Int))]
  refine ev_bipush dX11_init_165 (by decide) (by decide) ?_
  show Ev _ _ _ _ 167 183 _ _ [(2, 173)] [(0, (116 : Int)), (0, (10 : Int)), (2, (182 : Int)), (2, (182 : Int)), (2, (173 : Int))]
  refine ev_cast (X := some ()) (q := ()) dX11_init_167 sp182 (by decide) (by decide) (chk_pos ⟨by decide, by decide, by decide, by decide⟩) (fun _ => ?_)
  show Ev _ _ _ _ 168 183 _ _ [(2, 173)] [(2, (182 : Int)), (2, (173 : Int))]
  refine ev_dup dX11_init_168 (show (2 : Nat) ≠ 1 by decide) ?_
  show Ev _ _ _ _ 169 183 _ _ [(2, 173)] [(2, (182 : Int)), (2, (182 : Int)), (2, (173 : Int))]
  refine ev_bipush dX11_init_169 (by decide) (by decide) ?_
  show Ev _ _ _ _ 171 183 _ _ [(2, 173)] [(0, (11 : Int)), (2, (182 : Int)), (2, (182 : Int)), (2, (173 : Int))]
  refine ev_bipush dX11_init_171 (by decide) (by decide) ?_
  show Ev _ _ _ _ 173 183 _ _ [(2, 173)] [(0, (97 : Int)), (0, (11 : Int)), (2, (182 : Int)), (2, (182 : Int)), (2, (173 : Int))]
  refine ev_cast (X := some ()) (q := ()) dX11_init_173 sp182 (by decide) (by decide) (chk_pos ⟨by decide, by decide, by decide, by decide⟩) (fun _ => ?_)
  show Ev _ _ _ _ 174 183 _ _ [(2, 173)] [(2, (182 : Int)), (2, (173 : Int))]
  refine ev_dup dX11_init_174 (show (2 : Nat) ≠ 1 by decide) ?_
  show Ev _ _ _ _ 175 183 _ _ [(2, 173)] [(2, (182 : Int)), (2, (182 : Int)), (2, (173 : Int))]
  refine ev_bipush dX11_init_175 (by decide) (by decide) ?_
  show Ev _ _ _ _ 177 183 _ _ [(2, 173)] [(0, (12 : Int)), (2, (182 : Int)), (2, (182 : Int)), (2, (173 : Int))]
  refine ev_bipush dX11_init_177 (by decide) (by decide) ?_
  show Ev _ _ _ _ 179 183 _ _ [(2, 173)] [(0, (107 : Int)), (0, (12 : Int)), (2, (182 : Int)), (2, (182 : Int)), (2, (173 : Int))]
  refine ev_cast (X := some ()) (q := ()) dX11_init_179 sp182 (by decide) (by decide) (chk_pos ⟨by decide, by decide, by decide, by decide⟩) (fun _ => ?_)
  show Ev _ _ _ _ 180 183 _ _ [(2, 173)] [(2, (182 : Int)), (2, (173 : Int))]
  refine ev_dup dX11_init_180 (show (2 : Nat) ≠ 1 by decide) ?_
  show Ev _ _ _ _ 181 183 _ _ [(2, 173)] [(2, (182 : Int)), (2, (182 : Int)), (2, (173 : Int))]
  refine ev_bipush dX11_init_181 (by decide) (by decide) ?_
  show Ev _ _ _ _ 183 183 _ _ [(2, 173)] [(0, (13 : Int)), (2, (182 : Int)), (2, (182 : Int)), (2, (173 : Int))]
  refine ev_bipush dX11_init_183 (by decide) (by decide) ?_
  show Ev _ _ _ _ 185 183 _ _ [(2, 173)] [(0, (101 : Int)), (0, (13 : Int)), (2, (182 : Int)), (2, (182 : Int)), (2, (173 : Int))]
  refine ev_cast (X := some ()) (q := ()) dX11_init_185 sp182 (by decide) (by decide) (chk_pos ⟨by decide, by decide, by decide, by decide⟩) (fun _ => ?_)
  show Ev _ _ _ _ 186 183 _ _ [(2, 173)] [(2, (182 : Int)), (2, (173 : Int))]
  refine ev_dup dX11_init_186 (show (2 : Nat) ≠ 1 by decide) ?_
  show Ev _ _ _ _ 187 183 _ _ [(2, 173)] [(2, (182 : Int)), (2, (182 : Int)), (2, (173 : Int))]
  refine ev_bipush dX11_init_187 (by decide) (by decide) ?_
  show Ev _ _ _ _ 189 183 _ _ [(2, 173)] [(0, (14 : Int)), (2, (182 : Int)), (2, (182 : Int)), (2, (173 : Int))]
  refine ev_bipush dX11_init_189 (by decide) (by decide) ?_
  show Ev _ _ _ _ 191 183 _ _ [(2, 173)] [(0, (115 : Int)), (0, (14 : Int)), (2, (182 : Int)), (2, (182 : Int)), (2, (173 : Int))]
  refine ev_cast (X := some ()) (q := ()) dX11_init_191 sp182 (by decide) (by decide) (chk_pos ⟨by decide, by decide, by decide, by decide⟩) (fun _ => ?_)
  show Ev _ _ _ _ 192 183 _ _ [(2, 173)] [(2, (182 : Int)), (2, (173 : Int))]
  refine ev_dup dX11_init_192 (show (2 : Nat) ≠ 1 by decide) ?_
  show Ev _ _ _ _ 193 183 _ _ [(2, 173)] [(2, (182 : Int)), (2, (182 : Int)), (2, (173 : Int))]
  refine ev_bipush dX11_init_193 (by decide) (by decide) ?_
  show Ev _ _ _ _ 195 183 _ _ [(2, 173)] [(0, (15 : Int)), (2, (182 : Int)), (2, (182 : Int)), (2, (173 : Int))]
  refine ev_bipush dX11_init_195 (by decide) (by decide) ?_
  show Ev _ _ _ _ 197 183 _ _ [(2, 173)] [(0, (100 : Int)), (0, (15 : Int)), (2, (182 : Int)), (2, (182 : Int)), (2, (173 : Int))]
  refine ev_cast (X := some ()) (q := ()) dX11_init_197 sp182 (by decide) (by decide) (chk_pos ⟨by decide, by decide, by decide, by decide⟩) (fun _ => ?_)
  show Ev _ _ _ _ 198 183 _ _ [(2, 173)] [(2, (182 : Int)), (2, (173 : Int))]
  refine ev_dup dX11_init_198 (show (2 : Nat) ≠ 1 by decide) ?_
  show Ev _ _ _ _ 199 183 _ _ [(2, 173)] [(2, (182 : Int)), (2, (182 : Int)), (2, (173 : Int))]
  refine ev_bipush dX11_init_199 (by decide) (by decide) ?_
  show Ev _ _ _ _ 201 183 _ _ [(2, 173)] [(0, (16 : Int)), (2, (182 : Int)), (2, (182 : Int)), (2, (173 : Int))]
  refine ev_bipush dX11_init_201 (by decide) (by decide) ?_
  show Ev _ _ _ _ 203 183 _ _ [(2, 173)] [(0, (114 : Int)), (0, (16 : Int)), (2, (182 : Int)), (2, (182 : Int)), (2, (173 : Int))]
  refine ev_cast (X := some ()) (q := ()) dX11_init_203 sp182 (by decide) (by decide) (chk_pos ⟨by decide, by decide, by decide, by decide⟩) (fun _ => ?_)
  show Ev _ _ _ _ 204 183 _ _ [(2, 173)] [(2, (182 : Int)), (2, (173 : Int))]
  refine ev_dup dX11_init_204 (show (2 : Nat) ≠ 1 by decide) ?_
  show Ev _ _ _ _ 205 183 _ _ [(2, 173)] [(2, (182 : Int)), (2, (182 : Int)), (2, (173 : Int))]
  refine ev_bipush dX11_init_205 (by decide) (by decide) ?_
  show Ev _ _ _ _ 207 183 _ _ [(2, 173)] [(0, (17 : Int)), (2, (182 : Int)), (2, (182 : Int)), (2, (173 : Int))]
  refine ev_bipush dX11_init_207 (by decide) (by decide) ?_
  show Ev _ _ _ _ 209 183 _ _ [(2, 173)] [(0, (111 : Int)), (0, (17 : Int)), (2, (182 : Int)), (2, (182 : Int)), (2, (173 : Int))]
  refine ev_cast (X := some ()) (q := ()) dX11_init_209 sp182 (by decide) (by decide) (chk_pos ⟨by decide, by decide, by decide, by decide⟩) (fun _ => ?_)
  show Ev _ _ _ _ 210 183 _ _ [(2, 173)] [(2, (182 : Int)), (2, (173 : Int))]
  refine ev_dup dX11_init_210 (show (2 : Nat) ≠ 1 by decide) ?_
  show Ev _ _ _ _ 211 183 _ _ [(2, 173)] [(2, (182 : Int)), (2, (182 : Int)), (2, (173 : Int))]
  refine ev_bipush dX11_init_211 (by decide) (by decide) ?_
  show Ev _ _ _ _ 213 183 _ _ [(2, 173)] [(0, (18 : Int)), (2, (182 : Int)), (2, (182 : Int)), (2, (173 : Int))]
  refine ev_bipush dX11_init_213 (by decide) (by decide) ?_
  show Ev _ _ _ _ 215 183 _ _ [(2, 173)] [(0, (112 : Int)), (0, (18 : Int)), (2, (182 : Int)), (2, (182 : Int)), (2, (173 : Int))]
  refine ev_cast (X := some ()) (q := ()) dX11_init_215 sp182 (by decide) (by decide) (chk_pos ⟨by decide, by decide, by decide, by decide⟩) (fun _ => ?_)
  show Ev _ _ _ _ 216 183 _ _ [(2, 173)] [(2, (182 : Int)), (2, (173 : Int))]
  refine ev_dup dX11_init_216 (show (2 : Nat) ≠ 1 by decide) ?_
  show Ev _ _ _ _ 217 183 _ _ [(2, 173)] [(2, (182 : Int)), (2, (182 : Int)), (2, (173 : Int))]
  refine ev_bipush dX11_init_217 (by decide) (by decide) ?_
  show Ev _ _ _ _ 219 183 _ _ [(2, 173)] [(0, (19 : Int)), (2, (182 : Int)), (2, (182 : Int)), (2, (173 : Int))]
  refine ev_bipush dX11_init_219 (by decide) (by decide) ?_
  show Ev _ _ _ _ 221 183 _ _ [(2, 173)] [(0, (115 : Int)), (0, (19 : Int)), (2, (182 : Int)), (2, (182 : Int)), (2, (173 : Int))]
  refine ev_cast (X := some ()) (q := ()) dX11_init_221 sp182 (by decide) (by decide) (chk_pos ⟨by decide, by decide, by decide, by decide⟩) (fun _ => ?_)
  show Ev _ _ _ _ 222 183 _ _ [(2, 173)] [(2, (182 : Int)), (2, (173 : Int))]
  refine ev_dup dX11_init_222 (show (2 : Nat) ≠ 1 by decide) ?_
  show Ev _ _ _ _ 223 183 _ _ [(2, 173)] [(2, (182 : Int)), (2, (182 : Int)), (2, (173 : Int))]
  refine ev_bipush dX11_init_223 (by decide) (by decide) ?_
  show Ev _ _ _ _ 225 183 _ _ [(2, 173)] [(0, (20 : Int)), (2, (182 : Int)), (2, (182 : Int)), (2, (173 : Int))]
  refine ev_bipush dX11_init_225 (by decide) (by decide) ?_
  show Ev _ _ _ _ 227 183 _ _ [(2, 173)] [(0, (110 : Int)), (0, (20 : Int)), (2, (182 : Int)), (2, (182 : Int)), (2, (173 : Int))]
  refine ev_cast (X := some ()) (q := ()) dX11_init_227 sp182 (by decide) (by decide) (chk_pos ⟨by decide, by decide, by decide, by decide⟩) (fun _ => ?_)
  show Ev _ _ _ _ 228 183 _ _ [(2, 173)] [(2, (182 : Int)), (2, (173 : Int))]
  refine ev_dup dX11_init_228 (show (2 : Nat) ≠ 1 by decide) ?_
  show Ev _ _ _ _ 229 183 _ _ [(2, 173)] [(2, (182 : Int)), (2, (182 : Int)), (2, (173 : Int))]
  refine ev_bipush dX11_init_229 (by decide) (by decide) ?_
  show Ev _ _ _ _ 231 183 _ _ [(2, 173)] [(0, (21 : Int)), (2, (182 : Int)), (2, (182 : Int)), (2, (173 : Int))]
  refine ev_bipush dX11_init_231 (by decide) (by decide) ?_
  show Ev _ _ _ _ 233 183 _ _ [(2, 173)] [(0, (105 : Int)), (0, (21 : Int)), (2, (182 : Int)), (2, (182 : Int)), (2, (173 : Int))]
  refine ev_cast (X := some ()) (q := ()) dX11_init_233 sp182 (by decide) (by decide) (chk_pos ⟨by decide, by decide, by decide, by decide⟩) (fun _ => ?_)
  show Ev _ _ _ _ 234 183 _ _ [(2, 173)] [(2, (182 : Int)), (2, (173 : Int))]
  refine ev_dup dX11_init_234 (show (2 : Nat) ≠ 1 by decide) ?_
  show Ev _ _ _ _ 235 183 _ _ [(2, 173)] [(2, (182 : Int)), (2, (182 : Int)), (2, (173 : Int))]
  refine ev_bipush dX11_init_235 (by decide) (by decide) ?_
  show Ev _ _ _ _ 237 183 _ _ [(2, 173)] [(0, (22 : Int)), (2, (182 : Int)), (2, (182 : Int)), (2, (173 : Int))]
  refine ev_bipush dX11_init_237 (by decide) (by decide) ?_
  show Ev _ _ _ _ 239 183 _ _ [(2, 173)] [(0, (103 : Int)), (0, (22 : Int)), (2, (182 : Int)), (2, (182 : Int)), (2, (173 : Int))]
  refine ev_cast (X := some ()) (q := ()) dX11_init_239 sp182 (by decide) (by decide) (chk_pos ⟨by decide, by decide, by decide, by decide⟩) (fun _ => ?_)
  show Ev _ _ _ _ 240 183 _ _ [(2, 173)] [(2, (182 : Int)), (2, (173 : Int))]
  refine ev_dup dX11_init_240 (show (2 : Nat) ≠ 1 by decide) ?_
  show Ev _ _ _ _ 241 183 _ _ [(2, 173)] [(2, (182 : Int)), (2, (182 : Int)), (2, (173 : Int))]
  refine ev_bipush dX11_init_241 (by decide) (by decide) ?_
  show Ev _ _ _ _ 243 183 _ _ [(2, 173)] [(0, (23 : Int)), (2, (182 : Int)), (2, (182 : Int)), (2, (173 : Int))]
  refine ev_bipush dX11_init_243 (by decide) (by decide) ?_
  show Ev _ _ _ _ 245 183 _ _ [(2, 173)] [(0, (104 : Int)), (0, (23 : Int)), (2, (182 : Int)), (2, (182 : Int)), (2, (173 : Int))]
  refine ev_cast (X := some ()) (q := ()) dX11_init_245 sp182 (by decide) (by decide) (chk_pos ⟨by decide, by decide, by decide, by decide⟩) (fun _ => ?_)
  show Ev _ _ _ _ 246 183 _ _ [(2, 173)] [(2, (182 : Int)), (2, (173 : Int))]
  refine ev_dup dX11_init_246 (show (2 : Nat) ≠ 1 by decide) ?_
  show Ev _ _ _ _ 247 183 _ _ [(2, 173)] [(2, (182 : Int)), (2, (182 : Int)), (2, (173 : Int))]
  refine ev_bipush dX11_init_247 (by decide) (by decide) ?_
  show Ev _ _ _ _ 249 183 _ _ [(2, 173)] [(0, (24 : Int)), (2, (182 : Int)), (2, (182 : Int)), (2, (173 : Int))]
  refine ev_bipush dX11_init_249 (by decide) (by decide) ?_
  show Ev _ _ _ _ 251 183 _ _ [(2, 173)] [(0, (116 : Int)), (0, (24 : Int)), (2, (182 : Int)), (2, (182 : Int)), (2, (173 : Int))]
  refine ev_cast (X := some ()) (q := ()) dX11_init_251 sp182 (by decide) (by decide) (chk_pos ⟨by decide, by decide, by decide, by decide⟩) (fun _ => ?_)
  show Ev _ _ _ _ 252 183 _ _ [(2, 173)] [(2, (182 : Int)), (2, (173 : Int))]
  refine ev_dup dX11_init_252 (show (2 : Nat) ≠ 1 by decide) ?_
  show Ev _ _ _ _ 253 183 _ _ [(2, 173)] [(2, (182 : Int)), (2, (182 : Int)), (2, (173 : Int))]
  refine ev_bipush dX11_init_253 (by decide) (by decide) ?_
  show Ev _ _ _ _ 255 183 _ _ [(2, 173)] [(0, (25 : Int)), (2, (182 : Int)), (2, (182 : Int)), (2, (173 : Int))]
  refine ev_bipush dX11_init_255 (by decide) (by decide) ?_
  show Ev _ _ _ _ 257 183 _ _ [(2, 173)] [(0, (114 : Int)), (0, (25 : Int)), (2, (182 : Int)), (2, (182 : Int)), (2, (173 : Int))]
  refine ev_cast (X := some ()) (q := ()) dX11_init_257 sp182 (by decide) (by decide) (chk_pos ⟨by decide, by decide, by decide, by decide⟩) (fun _ => ?_)
  show Ev _ _ _ _ 258 183 _ _ [(2, 173)] [(2, (182 : Int)), (2, (173 : Int))]
  refine ev_dup dX11_init_258 (show (2 : Nat) ≠ 1 by decide) ?_
  show Ev _ _ _ _ 259 183 _ _ [(2, 173)] [(2, (182 : Int)), (2, (182 : Int)), (2, (173 : Int))]
  refine ev_bipush dX11_init_259 (by decide) (by decide) ?_
  show Ev _ _ _ _ 261 183 _ _ [(2, 173)] [(0, (26 : Int)), (2, (182 : Int)), (2, (182 : Int)), (2, (173 : Int))]
  refine ev_bipush dX11_init_261 (by decide) (by decide) ?_
  show Ev _ _ _ _ 263 183 _ _ [(2, 173)] [(0, (111 : Int)), (0, (26 : Int)), (2, (182 : Int)), (2, (182 : Int)), (2, (173 : Int))]
  refine ev_cast (X := some ()) (q := ()) dX11_init_263 sp182 (by decide) (by decide) (chk_pos ⟨by decide, by decide, by decide, by decide⟩) (fun _ => ?_)
  show Ev _ _ _ _ 264 183 _ _ [(2, 173)] [(2, (182 : Int)), (2, (173 : Int))]
  refine ev_dup dX11_init_264 (show (2 : Nat) ≠ 1 by decide) ?_
  show Ev _ _ _ _ 265 183 _ _ [(2, 173)] [(2, (182 : Int)), (2, (182 : Int)), (2, (173 : Int))]
  refine ev_bipush dX11_init_265 (by decide) (by decide) ?_
  show Ev _ _ _ _ 267 183 _ _ [(2, 173)] [(0, (27 : Int)), (2, (182 : Int)), (2, (182 : Int)), (2, (173 : Int))]
  refine ev_bipush dX11_init_267 (by decide) (by decide) ?_
  show Ev _ _ _ _ 269 183 _ _ [(2, 173)] [(0, (111 : Int)), (0, (27 : Int)), (2, (182 : Int)), (2, (182 : Int)), (2, (173 : Int))]
  refine ev_cast (X := some ()) (q := ()) dX11_init_269 sp182 (by decide) (by decide) (chk_pos ⟨by decide, by decide, by decide, by decide⟩) (fun _ => ?_)
  show Ev _ _ _ _ 270 183 _ _ [(2, 173)] [(2, (182 : Int)), (2, (173 : Int))]
  refine ev_dup dX11_init_270 (show (2 : Nat) ≠ 1 by decide) ?_
  show Ev _ _ _ _ 271 183 _ _ [(2, 173)] [(2, (182 : Int)), (2, (182 : Int)), (2, (173 : Int))]
  refine ev_bipush dX11_init_271 (by decide) (by decide) ?_
  show Ev _ _ _ _ 273 183 _ _ [(2, 173)] [(0, (28 : Int)), (2, (182 : Int)), (2, (182 : Int)), (2, (173 : Int))]
  refine ev_bipush dX11_init_273 (by decide) (by decide) ?_
  show Ev _ _ _ _ 275 183 _ _ [(2, 173)] [(0, (109 : Int)), (0, (28 : Int)), (2, (182 : Int)), (2, (182 : Int)), (2, (173 : Int))]
  refine ev_cast (X := some ()) (q := ()) dX11_init_275 sp182 (by decide) (by decide) (chk_pos ⟨by decide, by decide, by decide, by decide⟩) (fun _ => ?_)
  show Ev _ _ _ _ 276 183 _ _ [(2, 173)] [(2, (182 : Int)), (2, (173 : Int))]
  refine ev_dup dX11_init_276 (show (2 : Nat) ≠ 1 by decide) ?_
  show Ev _ _ _ _ 277 183 _ _ [(2, 173)] [(2, (182 : Int)), (2, (182 : Int)), (2, (173 : Int))]
  refine ev_bipush dX11_init_277 (by decide) (by decide) ?_
  show Ev _ _ _ _ 279 183 _ _ [(2, 173)] [(0, (29 : Int)), (2, (182 : Int)), (2, (182 : Int)), (2, (173 : Int))]
  refine ev_bipush dX11_init_279 (by decide) (by decide) ?_
  show Ev _ _ _ _ 281 183 _ _ [(2, 173)] [(0, (32 : Int)), (0, (29 : Int)), (2, (182 : Int)), (2, (182 : Int)), (2, (173 : Int))]
  refine ev_cast (X := some ()) (q := ()) dX11_init_281 sp182 (by decide) (by decide) (chk_pos ⟨by decide, by decide, by decide, by decide⟩) (fun _ => ?_)
  show Ev _ _ _ _ 282 183 _ _ [(2, 173)] [(2, (182 : Int)), (2, (173 : Int))]
  refine ev_dup dX11_init_282 (show (2 : Nat) ≠ 1 by decide) ?_
  show Ev _ _ _ _ 283 183 _ _ [(2, 173)] [(2, (182 : Int)), (2, (182 : Int)), (2, (173 : Int))]
  refine ev_bipush dX11_init_283 (by decide) (by decide) ?_
  show Ev _ _ _ _ 285 183 _ _ [(2, 173)] [(0, (30 : Int)), (2, (182 : Int)), (2, (182 : Int)), (2, (173 : Int))]
  refine ev_bipush dX11_init_285 (by decide) (by decide) ?_
  show Ev _ _ _ _ 287 183 _ _ [(2, 173)] [(0, (104 : Int)), (0, (30 : Int)), (2, (182 : Int)), (2, (182 : Int)), (2, (173 : Int))]
  refine ev_cast (X := some ()) (q := ()) dX11_init_287 sp182 (by decide) (by decide) (chk_pos ⟨by decide, by decide, by decide, by decide⟩) (fun _ => ?_)
  show Ev _ _ _ _ 288 183 _ _ [(2, 173)] [(2, (182 : Int)), (2, (173 : Int))]
  refine ev_dup dX11_init_288 (show (2 : Nat) ≠ 1 by decide) ?_
  show Ev _ _ _ _ 289 183 _ _ [(2, 173)] [(2, (182 : Int)), (2, (182 : Int)), (2, (173 : Int))]
  refine ev_bipush dX11_init_289 (by decide) (by decide) ?_
  show Ev _ _ _ _ 291 183 _ _ [(2, 173)] [(0, (31 : Int)), (2, (182 : Int)), (2, (182 : Int)), (2, (173 : Int))]
  refine ev_bipush dX11_init_291 (by decide) (by decide) ?_
  show Ev _ _ _ _ 293 183 _ _ [(2, 173)] [(0, (111 : Int)), (0, (31 : Int)), (2, (182 : Int)), (2, (182 : Int)), (2, (173 : Int))]
  refine ev_cast (X := some ()) (q := ()) dX11_init_293 sp182 (by decide) (by decide) (chk_pos ⟨by decide, by decide, by decide, by decide⟩) (fun _ => ?_)
  show Ev _ _ _ _ 294 183 _ _ [(2, 173)] [(2, (182 : Int)), (2, (173 : Int))]
  refine ev_dup dX11_init_294 (show (2 : Nat) ≠ 1 by decide) ?_
  show Ev _ _ _ _ 295 183 _ _ [(2, 173)] [(2, (182 : Int)), (2, (182 : Int)), (2, (173 : Int))]
  refine ev_bipush dX11_init_295 (by decide) (by decide) ?_
  show Ev _ _ _ _ 297 183 _ _ [(2, 173)] [(0, (32 : Int)), (2, (182 : Int)), (2, (182 : Int)), (2, (173 : Int))]
  refine ev_bipush dX11_init_297 (by decide) (by decide) ?_
  show Ev _ _ _ _ 299 183 _ _ [(2, 173)] [(0, (117 : Int)), (0, (32 : Int)), (2, (182 : Int)), (2, (182 : Int)), (2, (173 : Int))]
  refine ev_cast (X := some ()) (q := ()) dX11_init_299 sp182 (by decide) (by decide) (chk_pos ⟨by decide, by decide, by decide, by decide⟩) (fun _ => ?_)
  show Ev _ _ _ _ 300 183 _ _ [(2, 173)] [(2, (182 : Int)), (2, (173 : Int))]
  refine ev_dup dX11_init_300 (show (2 : Nat) ≠ 1 by decide) ?_
  show Ev _ _ _ _ 301 183 _ _ [(2, 173)] [(2, (182 : Int)), (2, (182 : Int)), (2, (173 : Int))]
  refine ev_bipush dX11_init_301 (by decide) (by decide) ?_
  show Ev _ _ _ _ 303 183 _ _ [(2, 173)] [(0, (33 : Int)), (2, (182 : Int)), (2, (182 : Int)), (2, (173 : Int))]
  refine ev_bipush dX11_init_303 (by decide) (by decide) ?_
  show Ev _ _ _ _ 305 183 _ _ [(2, 173)] [(0, (114 : Int)), (0, (33 : Int)), (2, (182 : Int)), (2, (182 : Int)), (2, (173 : Int))]
  refine ev_cast (X := some ()) (q := ()) dX11_init_305 sp182 (by decide) (by decide) (chk_pos ⟨by decide, by decide, by decide, by decide⟩) (fun _ => ?_)
  show Ev _ _ _ _ 306 183 _ _ [(2, 173)] [(2, (182 : Int)), (2, (173 : Int))]
  refine ev_dup dX11_init_306 (show (2 : Nat) ≠ 1 by decide) ?_
  show Ev _ _ _ _ 307 183 _ _ [(2, 173)] [(2, (182 : Int)), (2, (182 : Int)), (2, (173 : Int))]
  refine ev_bipush dX11_init_307 (by decide) (by decide) ?_
  show Ev _ _ _ _ 309 183 _ _ [(2, 173)] [(0, (34 : Int)), (2, (182 : Int)), (2, (182 : Int)), (2, (173 : Int))]
  refine ev_bipush dX11_init_309 (by decide) (by decide) ?_
  show Ev _ _ _ _ 311 183 _ _ [(2, 173)] [(0, (115 : Int)), (0, (34 : Int)), (2, (182 : Int)), (2, (182 : Int)), (2, (173 : Int))]
  refine ev_cast (X := some ()) (q := ()) dX11_init_311 sp182 (by decide) (by decide) (chk_pos ⟨by decide, by decide, by decide, by decide⟩) (fun _ => ?_)
  show Ev _ _ _ _ 312 183 _ _ [(2, 173)] [(2, (182 : Int)), (2, (173 : Int))]
  refine ev_dup dX11_init_312 (show (2 : Nat) ≠ 1 by decide) ?_
  show Ev _ _ _ _ 313 183 _ _ [(2, 173)] [(2, (182 : Int)), (2, (182 : Int)), (2, (173 : Int))]
  refine ev_bipush dX11_init_313 (by decide) (by decide) ?_
  show Ev _ _ _ _ 315 183 _ _ [(2, 173)] [(0, (35 : Int)), (2, (182 : Int)), (2, (182 : Int)), (2, (173 : Int))]
  refine ev_bipush dX11_init_315 (by decide) (by decide) ?_
  show Ev _ _ _ _ 317 183 _ _ [(2, 173)] [(0, (116 : Int)), (0, (35 : Int)), (2, (182 : Int)), (2, (182 : Int)), (2, (173 : Int))]
  refine ev_cast (X := some ()) (q := ()) dX11_init_317 sp182 (by decide) (by decide) (chk_pos ⟨by decide, by decide, by decide, by decide⟩) (fun _ => ?_)
  show Ev _ _ _ _ 318 183 _ _ [(2, 173)] [(2, (182 : Int)), (2, (173 : Int))]
  refine ev_dup dX11_init_318 (show (2 : Nat) ≠ 1 by decide) ?_
  show Ev _ _ _ _ 319 183 _ _ [(2, 173)] [(2, (182 : Int)), (2, (182 : Int)), (2, (173 : Int))]
  refine ev_bipush dX11_init_319 (by decide) (by decide) ?_
  show Ev _ _ _ _ 321 183 _ _ [(2, 173)] [(0, (36 : Int)), (2, (182 : Int)), (2, (182 : Int)), (2, (173 : Int))]
  refine ev_bipush dX11_init_321 (by decide) (by decide) ?_
  show Ev _ _ _ _ 323 183 _ _ [(2, 173)] [(0, (117 : Int)), (0, (36 : Int)), (2, (182 : Int)), (2, (182 : Int)), (2, (173 : Int))]
  refine ev_cast (X := some ()) (q := ()) dX11_init_323 sp182 (by decide) (by decide) (chk_pos ⟨by decide, by decide, by decide, by decide⟩) (fun _ => ?_)
  show Ev _ _ _ _ 324 183 _ _ [(2, 173)] [(2, (182 : Int)), (2, (173 : Int))]
  refine ev_dup dX11_init_324 (show (2 : Nat) ≠ 1 by decide) ?_
  show Ev _ _ _ _ 325 183 _ _ [(2, 173)] [(2, (182 : Int)), (2, (182 : Int)), (2, (173 : Int))]
  refine ev_bipush dX11_init_325 (by decide) (by decide) ?_
  show Ev _ _ _ _ 327 183 _ _ [(2, 173)] [(0, (37 : Int)), (2, (182 : Int)), (2, (182 : Int)), (2, (173 : Int))]
  refine ev_bipush dX11_init_327 (by decide) (by decide) ?_
  show Ev _ _ _ _ 329 183 _ _ [(2, 173)] [(0, (114 : Int)), (0, (37 : Int)), (2, (182 : Int)), (2, (182 : Int)), (2, (173 : Int))]
  refine ev_cast (X := some ()) (q := ()) dX11_init_329 sp182 (by decide) (by decide) (chk_pos ⟨by decide, by decide, by decide, by decide⟩) (fun _ => ?_)
  show Ev _ _ _ _ 330 183 _ _ [(2, 173)] [(2, (182 : Int)), (2, (173 : Int))]
  refine ev_dup dX11_init_330 (show (2 : Nat) ≠ 1 by decide) ?_
  show Ev _ _ _ _ 331 183 _ _ [(2, 173)] [(2, (182 : Int)), (2, (182 : Int)), (2, (173 : Int))]
  refine ev_bipush dX11_init_331 (by decide) (by decide) ?_
  show Ev _ _ _ _ 333 183 _ _ [(2, 173)] [(0, (38 : Int)), (2, (182 : Int)), (2, (182 : Int)), (2, (173 : Int))]
  refine ev_bipush dX11_init_333 (by decide) (by decide) ?_
  show Ev _ _ _ _ 335 183 _ _ [(2, 173)] [(0, (110 : Int)), (0, (38 : Int)), (2, (182 : Int)), (2, (182 : Int)), (2, (173 : Int))]
  refine ev_cast (X := some ()) (q := ()) dX11_init_335 sp182 (by decide) (by decide) (chk_pos ⟨by decide, by decide, by decide, by decide⟩) (fun _ => ?_)
  show Ev _ _ _ _ 336 183 _ _ [(2, 173)] [(2, (182 : Int)), (2, (173 : Int))]
  refine ev_dup dX11_init_336 (show (2 : Nat) ≠ 1 by decide) ?_
  show Ev _ _ _ _ 337 183 _ _ [(2, 173)] [(2, (182 : Int)), (2, (182 : Int)), (2, (173 : Int))]
  refine ev_bipush dX11_init_337 (by decide) (by decide) ?_
  show Ev _ _ _ _ 339 183 _ _ [(2, 173)] [(0, (39 : Int)), (2, (182 : Int)), (2, (182 : Int)), (2, (173 : Int))]
  refine ev_bipush dX11_init_339 (by decide) (by decide) ?_
  show Ev _ _ _ _ 341 183 _ _ [(2, 173)] [(0, (32 : Int)), (0, (39 : Int)), (2, (182 : Int)), (2, (182 : Int)), (2, (173 : Int))]
  refine ev_cast (X := some ()) (q := ()) dX11_init_341 sp182 (by decide) (by decide) (chk_pos ⟨by decide, by decide, by decide, by decide⟩) (fun _ => ?_)
  show Ev _ _ _ _ 342 183 _ _ [(2, 173)] [(2, (182 : Int)), (2, (173 : Int))]
  refine ev_putrF (j := 14) dX11_init_342 cf_X11 wf_X11_35 sp173 (by decide) (by decide) rfl rfl rfl rfl (fun z => absurd z (by decide +kernel)) ?_
  show Ev _ _ _ _ 345 183 _ _ [(2, 173)] []
  refine ev_aload_n dX11_init_345 rfl (by decide) ?_
  show Ev _ _ _ _ 346 183 _ _ [(2, 173)] [(2, (173 : Int))]
  refine ev_bipush dX11_init_346 (by decide) (by decide) ?_
  show Ev _ _ _ _ 348 183 _ _ [(2, 173)] [(0, (88 : Int)), (2, (173 : Int))]
  refine ev_newi (N := 88) dX11_init_348 wyint sp183 (by decide) (by decide) ?_
  show Ev _ _ _ _ 350 184 _ _ [(2, 173)] [(2, (183 : Int)), (2, (173 : Int))]
  refine ev_putrF (j := 15) dX11_init_350 cf_X11 wf_X11_39 sp173 (by decide) (by decide) rfl rfl rfl rfl (fun z => absurd z (by decide +kernel)) ?_
  show Ev _ _ _ _ 353 184 _ _ [(2, 173)] []
  refine ev_aload_n dX11_init_353 rfl (by decide) ?_
  show Ev _ _ _ _ 354 184 _ _ [(2, 173)] [(2, (173 : Int))]
  refine ev_iconst dX11_init_354 (by decide) ?_
  show Ev _ _ _ _ 355 184 _ _ [(2, 173)] [(0, (4 : Int)), (2, (173 : Int))]
  refine ev_newi (N := 4) dX11_init_355 wyint sp184 (by decide) (by decide) ?_
  show Ev _ _ _ _ 357 185 _ _ [(2, 173)] [(2, (184 : Int)), (2, (173 : Int))]
  refine ev_putrF (j := 16) dX11_init_357 cf_X11 wf_X11_42 sp173 (by decide) (by decide) rfl rfl rfl rfl (fun z => absurd z (by decide +kernel)) ?_
  show Ev _ _ _ _ 360 185 _ _ [(2, 173)] []
  refine ev_aload_n dX11_init_360 rfl (by decide) ?_
  show Ev _ _ _ _ 361 185 _ _ [(2, 173)] [(2, (173 : Int))]
  refine ev_iconst dX11_init_361 (by decide) ?_
  show Ev _ _ _ _ 362 185 _ _ [(2, 173)] [(0, (4 : Int)), (2, (173 : Int))]
  refine ev_newi (N := 4) dX11_init_362 wyint sp185 (by decide) (by decide) ?_
  show Ev _ _ _ _ 364 186 _ _ [(2, 173)] [(2, (185 : Int)), (2, (173 : Int))]
  refine ev_putrF (j := 17) dX11_init_364 cf_X11 wf_X11_45 sp173 (by decide) (by decide) rfl rfl rfl rfl (fun z => absurd z (by decide +kernel)) ?_
  show Ev _ _ _ _ 367 186 _ _ [(2, 173)] []
  refine ev_aload_n dX11_init_367 rfl (by decide) ?_
  show Ev _ _ _ _ 368 186 _ _ [(2, 173)] [(2, (173 : Int))]
  refine ev_iconst dX11_init_368 (by decide) ?_
  show Ev _ _ _ _ 369 186 _ _ [(2, 173)] [(0, (4 : Int)), (2, (173 : Int))]
  refine ev_newi (N := 4) dX11_init_369 wyint sp186 (by decide) (by decide) ?_
  show Ev _ _ _ _ 371 187 _ _ [(2, 173)] [(2, (186 : Int)), (2, (173 : Int))]
  refine ev_putrF (j := 18) dX11_init_371 cf_X11 wf_X11_48 sp173 (by decide) (by decide) rfl rfl rfl rfl (fun z => absurd z (by decide +kernel)) ?_
  show Ev _ _ _ _ 374 187 _ _ [(2, 173)] []
  refine ev_aload_n dX11_init_374 rfl (by decide) ?_
  show Ev _ _ _ _ 375 187 _ _ [(2, 173)] [(2, (173 : Int))]
  refine ev_iconst dX11_init_375 (by decide) ?_
  show Ev _ _ _ _ 376 187 _ _ [(2, 173)] [(0, (5 : Int)), (2, (173 : Int))]
  refine ev_newi (N := 5) dX11_init_376 wyint sp187 (by decide) (by decide) ?_
  show Ev _ _ _ _ 378 188 _ _ [(2, 173)] [(2, (187 : Int)), (2, (173 : Int))]
  refine ev_putrF (j := 19) dX11_init_378 cf_X11 wf_X11_51 sp173 (by decide) (by decide) rfl rfl rfl rfl (fun z => absurd z (by decide +kernel)) ?_
  show Ev _ _ _ _ 381 188 _ _ [(2, 173)] []
  refine ev_aload_n dX11_init_381 rfl (by decide) ?_
  show Ev _ _ _ _ 382 188 _ _ [(2, 173)] [(2, (173 : Int))]
  refine ev_iconst dX11_init_382 (by decide) ?_
  show Ev _ _ _ _ 383 188 _ _ [(2, 173)] [(0, (5 : Int)), (2, (173 : Int))]
  refine ev_newi (N := 5) dX11_init_383 wyint sp188 (by decide) (by decide) ?_
  show Ev _ _ _ _ 385 189 _ _ [(2, 173)] [(2, (188 : Int)), (2, (173 : Int))]
  refine ev_putrF (j := 20) dX11_init_385 cf_X11 wf_X11_54 sp173 (by decide) (by decide) rfl rfl rfl rfl (fun z => absurd z (by decide +kernel)) ?_
  show Ev _ _ _ _ 388 189 _ _ [(2, 173)] []
  refine ev_aload_n dX11_init_388 rfl (by decide) ?_
  show Ev _ _ _ _ 389 189 _ _ [(2, 173)] [(2, (173 : Int))]
  refine ev_iconst dX11_init_389 (by decide) ?_
  show Ev _ _ _ _ 390 189 _ _ [(2, 173)] [(0, (5 : Int)), (2, (173 : Int))]
  refine ev_newi (N := 5) dX11_init_390 wyint sp189 (by decide) (by decide) ?_
  show Ev _ _ _ _ 392 190 _ _ [(2, 173)] [(2, (189 : Int)), (2, (173 : Int))]
  refine ev_putrF (j := 21) dX11_init_392 cf_X11 wf_X11_57 sp173 (by decide) (by decide) rfl rfl rfl rfl (fun z => absurd z (by decide +kernel)) ?_
  show Ev _ _ _ _ 395 190 _ _ [(2, 173)] []
  refine ev_aload_n dX11_init_395 rfl (by decide) ?_
  show Ev _ _ _ _ 396 190 _ _ [(2, 173)] [(2, (173 : Int))]
  refine ev_iconst dX11_init_396 (by decide) ?_
  show Ev _ _ _ _ 397 190 _ _ [(2, 173)] [(0, (5 : Int)), (2, (173 : Int))]
  refine ev_newi (N := 5) dX11_init_397 wyint sp190 (by decide) (by decide) ?_
  show Ev _ _ _ _ 399 191 _ _ [(2, 173)] [(2, (190 : Int)), (2, (173 : Int))]
  refine ev_putrF (j := 22) dX11_init_399 cf_X11 wf_X11_60 sp173 (by decide) (by decide) rfl rfl rfl rfl (fun z => absurd z (by decide +kernel)) ?_
  show Ev _ _ _ _ 402 191 _ _ [(2, 173)] []
  refine ev_aload_n dX11_init_402 rfl (by decide) ?_
  show Ev _ _ _ _ 403 191 _ _ [(2, 173)] [(2, (173 : Int))]
  refine ev_iconst dX11_init_403 (by decide) ?_
  show Ev _ _ _ _ 404 191 _ _ [(2, 173)] [(0, (5 : Int)), (2, (173 : Int))]
  refine ev_newi (N := 5) dX11_init_404 wyint sp191 (by decide) (by decide) ?_
  show Ev _ _ _ _ 406 192 _ _ [(2, 173)] [(2, (191 : Int)), (2, (173 : Int))]
  refine ev_putrF (j := 23) dX11_init_406 cf_X11 wf_X11_63 sp173 (by decide) (by decide) rfl rfl rfl rfl (fun z => absurd z (by decide +kernel)) ?_
  show Ev _ _ _ _ 409 192 _ _ [(2, 173)] []
  refine ev_aload_n dX11_init_409 rfl (by decide) ?_
  show Ev _ _ _ _ 410 192 _ _ [(2, 173)] [(2, (173 : Int))]
  refine ev_iconst dX11_init_410 (by decide) ?_
  show Ev _ _ _ _ 411 192 _ _ [(2, 173)] [(0, (5 : Int)), (2, (173 : Int))]
  refine ev_newi (N := 5) dX11_init_411 wyint sp192 (by decide) (by decide) ?_
  show Ev _ _ _ _ 413 193 _ _ [(2, 173)] [(2, (192 : Int)), (2, (173 : Int))]
  refine ev_putrF (j := 24) dX11_init_413 cf_X11 wf_X11_66 sp173 (by decide) (by decide) rfl rfl rfl rfl (fun z => absurd z (by decide +kernel)) ?_
  show Ev _ _ _ _ 416 193 _ _ [(2, 173)] []
  refine ev_aload_n dX11_init_416 rfl (by decide) ?_
  show Ev _ _ _ _ 417 193 _ _ [(2, 173)] [(2, (173 : Int))]
  refine ev_bipush dX11_init_417 (by decide) (by decide) ?_
  show Ev _ _ _ _ 419 193 _ _ [(2, 173)] [(0, (20 : Int)), (2, (173 : Int))]
  refine ev_newi (N := 20) dX11_init_419 wyint sp193 (by decide) (by decide) ?_
  show Ev _ _ _ _ 421 194 _ _ [(2, 173)] [(2, (193 : Int)), (2, (173 : Int))]
  refine ev_putrF (j := 25) dX11_init_421 cf_X11 wf_X11_69 sp173 (by decide) (by decide) rfl rfl rfl rfl (fun z => absurd z (by decide +kernel)) ?_
  show Ev _ _ _ _ 424 194 _ _ [(2, 173)] []
  refine ev_aload_n dX11_init_424 rfl (by decide) ?_
  show Ev _ _ _ _ 425 194 _ _ [(2, 173)] [(2, (173 : Int))]
  refine ev_bipush dX11_init_425 (by decide) (by decide) ?_
  show Ev _ _ _ _ 427 194 _ _ [(2, 173)] [(0, (20 : Int)), (2, (173 : Int))]
  refine ev_newi (N := 20) dX11_init_427 wyint sp194 (by decide) (by decide) ?_
  show Ev _ _ _ _ 429 195 _ _ [(2, 173)] [(2, (194 : Int)), (2, (173 : Int))]
  refine ev_putrF (j := 26) dX11_init_429 cf_X11 wf_X11_72 sp173 (by decide) (by decide) rfl rfl rfl rfl (fun z => absurd z (by decide +kernel)) ?_
  show Ev _ _ _ _ 432 195 _ _ [(2, 173)] []
  refine ev_aload_n dX11_init_432 rfl (by decide) ?_
  show Ev _ _ _ _ 433 195 _ _ [(2, 173)] [(2, (173 : Int))]
  refine ev_iconst dX11_init_433 (by decide) ?_
  show Ev _ _ _ _ 434 195 _ _ [(2, 173)] [(0, (4 : Int)), (2, (173 : Int))]
  refine ev_newi (N := 4) dX11_init_434 wyint sp195 (by decide) (by decide) ?_
  show Ev _ _ _ _ 436 196 _ _ [(2, 173)] [(2, (195 : Int)), (2, (173 : Int))]
  refine ev_putrF (j := 27) dX11_init_436 cf_X11 wf_X11_75 sp173 (by decide) (by decide) rfl rfl rfl rfl (fun z => absurd z (by decide +kernel)) ?_
  show Ev _ _ _ _ 439 196 _ _ [(2, 173)] []
  refine ev_aload_n dX11_init_439 rfl (by decide) ?_
  show Ev _ _ _ _ 440 196 _ _ [(2, 173)] [(2, (173 : Int))]
  refine ev_sipush dX11_init_440 (by decide) (by decide) ?_
  show Ev _ _ _ _ 443 196 _ _ [(2, 173)] [(0, (2400 : Int)), (2, (173 : Int))]
  refine ev_newi (N := 2400) dX11_init_443 wyint sp196 (by decide) (by decide) ?_
  show Ev _ _ _ _ 445 197 _ _ [(2, 173)] [(2, (196 : Int)), (2, (173 : Int))]
  refine ev_putrF (j := 28) dX11_init_445 cf_X11 wf_X11_78 sp173 (by decide) (by decide) rfl rfl rfl rfl (fun z => absurd z (by decide +kernel)) ?_
  show Ev _ _ _ _ 448 197 _ _ [(2, 173)] []
  refine ev_aload_n dX11_init_448 rfl (by decide) ?_
  show Ev _ _ _ _ 449 197 _ _ [(2, 173)] [(2, (173 : Int))]
  refine ev_sipush dX11_init_449 (by decide) (by decide) ?_
  show Ev _ _ _ _ 452 197 _ _ [(2, 173)] [(0, (300 : Int)), (2, (173 : Int))]
  refine ev_newi (N := 300) dX11_init_452 wyint sp197 (by decide) (by decide) ?_
  show Ev _ _ _ _ 454 198 _ _ [(2, 173)] [(2, (197 : Int)), (2, (173 : Int))]
  refine ev_putrF (j := 30) dX11_init_454 cf_X11 wf_X11_81 sp173 (by decide) (by decide) rfl rfl rfl rfl (fun z => absurd z (by decide +kernel)) ?_
  show Ev _ _ _ _ 457 198 _ _ [(2, 173)] []
  refine ev_aload_n dX11_init_457 rfl (by decide) ?_
  show Ev _ _ _ _ 458 198 _ _ [(2, 173)] [(2, (173 : Int))]
  refine ev_sipush dX11_init_458 (by decide) (by decide) ?_
  show Ev _ _ _ _ 461 198 _ _ [(2, 173)] [(0, (300 : Int)), (2, (173 : Int))]
  refine ev_newi (N := 300) dX11_init_461 wyint sp198 (by decide) (by decide) ?_
  show Ev _ _ _ _ 463 199 _ _ [(2, 173)] [(2, (198 : Int)), (2, (173 : Int))]
  refine ev_putrF (j := 31) dX11_init_463 cf_X11 wf_X11_84 sp173 (by decide) (by decide) rfl rfl rfl rfl (fun z => absurd z (by decide +kernel)) ?_
  show Ev _ _ _ _ 466 199 _ _ [(2, 173)] []
  refine ev_aload_n dX11_init_466 rfl (by decide) ?_
  show Ev _ _ _ _ 467 199 _ _ [(2, 173)] [(2, (173 : Int))]
  refine ev_sipush dX11_init_467 (by decide) (by decide) ?_
  show Ev _ _ _ _ 470 199 _ _ [(2, 173)] [(0, (300 : Int)), (2, (173 : Int))]
  refine ev_newi (N := 300) dX11_init_470 wyint sp199 (by decide) (by decide) ?_
  show Ev _ _ _ _ 472 200 _ _ [(2, 173)] [(2, (199 : Int)), (2, (173 : Int))]
  refine ev_putrF (j := 32) dX11_init_472 cf_X11 wf_X11_87 sp173 (by decide) (by decide) rfl rfl rfl rfl (fun z => absurd z (by decide +kernel)) ?_
  show Ev _ _ _ _ 475 200 _ _ [(2, 173)] []
  refine ev_aload_n dX11_init_475 rfl (by decide) ?_
  show Ev _ _ _ _ 476 200 _ _ [(2, 173)] [(2, (173 : Int))]
  refine ev_sipush dX11_init_476 (by decide) (by decide) ?_
  show Ev _ _ _ _ 479 200 _ _ [(2, 173)] [(0, (300 : Int)), (2, (173 : Int))]
  refine ev_newi (N := 300) dX11_init_479 wyint sp200 (by decide) (by decide) ?_
  show Ev _ _ _ _ 481 201 _ _ [(2, 173)] [(2, (200 : Int)), (2, (173 : Int))]
  refine ev_putrF (j := 33) dX11_init_481 cf_X11 wf_X11_90 sp173 (by decide) (by decide) rfl rfl rfl rfl (fun z => absurd z (by decide +kernel)) ?_
  show Ev _ _ _ _ 484 201 _ _ [(2, 173)] []
  refine ev_aload_n dX11_init_484 rfl (by decide) ?_
  show Ev _ _ _ _ 485 201 _ _ [(2, 173)] [(2, (173 : Int))]
  refine ev_sipush dX11_init_485 (by decide) (by decide) ?_
  show Ev _ _ _ _ 488 201 _ _ [(2, 173)] [(0, (300 : Int)), (2, (173 : Int))]
  refine ev_newi (N := 300) dX11_init_488 wyint sp201 (by decide) (by decide) ?_
  show Ev _ _ _ _ 490 202 _ _ [(2, 173)] [(2, (201 : Int)), (2, (173 : Int))]
  refine ev_putrF (j := 34) dX11_init_490 cf_X11 wf_X11_93 sp173 (by decide) (by decide) rfl rfl rfl rfl (fun z => absurd z (by decide +kernel)) ?_
  show Ev _ _ _ _ 493 202 _ _ [(2, 173)] []
  refine ev_aload_n dX11_init_493 rfl (by decide) ?_
  show Ev _ _ _ _ 494 202 _ _ [(2, 173)] [(2, (173 : Int))]
  refine ev_sipush dX11_init_494 (by decide) (by decide) ?_
  show Ev _ _ _ _ 497 202 _ _ [(2, 173)] [(0, (300 : Int)), (2, (173 : Int))]
  refine ev_newi (N := 300) dX11_init_497 wyint sp202 (by decide) (by decide) ?_
  show Ev _ _ _ _ 499 203 _ _ [(2, 173)] [(2, (202 : Int)), (2, (173 : Int))]
  refine ev_putrF (j := 36) dX11_init_499 cf_X11 wf_X11_96 sp173 (by decide) (by decide) rfl rfl rfl rfl (fun z => absurd z (by decide +kernel)) ?_
  show Ev _ _ _ _ 502 203 _ _ [(2, 173)] []
  refine ev_aload_n dX11_init_502 rfl (by decide) ?_
  show Ev _ _ _ _ 503 203 _ _ [(2, 173)] [(2, (173 : Int))]
  refine ev_bipush dX11_init_503 (by decide) (by decide) ?_
  show Ev _ _ _ _ 505 203 _ _ [(2, 173)] [(0, (20 : Int)), (2, (173 : Int))]
  refine ev_newi (N := 20) dX11_init_505 wyint sp203 (by decide) (by decide) ?_
  show Ev _ _ _ _ 507 204 _ _ [(2, 173)] [(2, (203 : Int)), (2, (173 : Int))]
  refine ev_putrF (j := 38) dX11_init_507 cf_X11 wf_X11_99 sp173 (by decide) (by decide) rfl rfl rfl rfl (fun z => absurd z (by decide +kernel)) ?_
  show Ev _ _ _ _ 510 204 _ _ [(2, 173)] []
  refine ev_aload_n dX11_init_510 rfl (by decide) ?_
  show Ev _ _ _ _ 511 204 _ _ [(2, 173)] [(2, (173 : Int))]
  refine ev_bipush dX11_init_511 (by decide) (by decide) ?_
  show Ev _ _ _ _ 513 204 _ _ [(2, 173)] [(0, (20 : Int)), (2, (173 : Int))]
  refine ev_newi (N := 20) dX11_init_513 wyint sp204 (by decide) (by decide) ?_
  show Ev _ _ _ _ 515 205 _ _ [(2, 173)] [(2, (204 : Int)), (2, (173 : Int))]
  refine ev_putrF (j := 39) dX11_init_515 cf_X11 wf_X11_102 sp173 (by decide) (by decide) rfl rfl rfl rfl (fun z => absurd z (by decide +kernel)) ?_
  show Ev _ _ _ _ 518 205 _ _ [(2, 173)] []
  refine ev_aload_n dX11_init_518 rfl (by decide) ?_
  show Ev _ _ _ _ 519 205 _ _ [(2, 173)] [(2, (173 : Int))]
  refine ev_sipush dX11_init_519 (by decide) (by decide) ?_
  show Ev _ _ _ _ 522 205 _ _ [(2, 173)] [(0, (200 : Int)), (2, (173 : Int))]
  refine ev_newi (N := 200) dX11_init_522 wyint sp205 (by decide) (by decide) ?_
  show Ev _ _ _ _ 524 206 _ _ [(2, 173)] [(2, (205 : Int)), (2, (173 : Int))]
  refine ev_putrF (j := 40) dX11_init_524 cf_X11 wf_X11_105 sp173 (by decide) (by decide) rfl rfl rfl rfl (fun z => absurd z (by decide +kernel)) ?_
  show Ev _ _ _ _ 527 206 _ _ [(2, 173)] []
  refine ev_aload_n dX11_init_527 rfl (by decide) ?_
  show Ev _ _ _ _ 528 206 _ _ [(2, 173)] [(2, (173 : Int))]
  refine ev_bipush dX11_init_528 (by decide) (by decide) ?_
  show Ev _ _ _ _ 530 206 _ _ [(2, 173)] [(0, (10 : Int)), (2, (173 : Int))]
  refine ev_newi (N := 10) dX11_init_530 wyint sp206 (by decide) (by decide) ?_
  show Ev _ _ _ _ 532 207 _ _ [(2, 173)] [(2, (206 : Int)), (2, (173 : Int))]
  refine ev_putrF (j := 41) dX11_init_532 cf_X11 wf_X11_108 sp173 (by decide) (by decide) rfl rfl rfl rfl (fun z => absurd z (by decide +kernel)) ?_
  show Ev _ _ _ _ 535 207 _ _ [(2, 173)] []
  refine ev_aload_n dX11_init_535 rfl (by decide) ?_
  show Ev _ _ _ _ 536 207 _ _ [(2, 173)] [(2, (173 : Int))]
  refine ev_bipush dX11_init_536 (by decide) (by decide) ?_
  show Ev _ _ _ _ 538 207 _ _ [(2, 173)] [(0, (10 : Int)), (2, (173 : Int))]
  refine ev_newi (N := 10) dX11_init_538 wyint sp207 (by decide) (by decide) ?_
  show Ev _ _ _ _ 540 208 _ _ [(2, 173)] [(2, (207 : Int)), (2, (173 : Int))]
  refine ev_putrF (j := 42) dX11_init_540 cf_X11 wf_X11_111 sp173 (by decide) (by decide) rfl rfl rfl rfl (fun z => absurd z (by decide +kernel)) ?_
  show Ev _ _ _ _ 543 208 _ _ [(2, 173)] []
  refine ev_aload_n dX11_init_543 rfl (by decide) ?_
  show Ev _ _ _ _ 544 208 _ _ [(2, 173)] [(2, (173 : Int))]
  refine ev_sipush dX11_init_544 (by decide) (by decide) ?_
  show Ev _ _ _ _ 547 208 _ _ [(2, 173)] [(0, (288 : Int)), (2, (173 : Int))]
  refine ev_newi (N := 288) dX11_init_547 wyint sp208 (by decide) (by decide) ?_
  show Ev _ _ _ _ 549 209 _ _ [(2, 173)] [(2, (208 : Int)), (2, (173 : Int))]
  refine ev_putrF (j := 43) dX11_init_549 cf_X11 wf_X11_114 sp173 (by decide) (by decide) rfl rfl rfl rfl (fun z => absurd z (by decide +kernel)) ?_
  show Ev _ _ _ _ 552 209 _ _ [(2, 173)] []
  refine ev_aload_n dX11_init_552 rfl (by decide) ?_
  show Ev _ _ _ _ 553 209 _ _ [(2, 173)] [(2, (173 : Int))]
  refine ev_bipush dX11_init_553 (by decide) (by decide) ?_
  show Ev _ _ _ _ 555 209 _ _ [(2, 173)] [(0, (120 : Int)), (2, (173 : Int))]
  refine ev_newi (N := 120) dX11_init_555 wyint sp209 (by decide) (by decide) ?_
  show Ev _ _ _ _ 557 210 _ _ [(2, 173)] [(2, (209 : Int)), (2, (173 : Int))]
  refine ev_putrF (j := 44) dX11_init_557 cf_X11 wf_X11_117 sp173 (by decide) (by decide) rfl rfl rfl rfl (fun z => absurd z (by decide +kernel)) ?_
  show Ev _ _ _ _ 560 210 _ _ [(2, 173)] []
  refine ev_aload_n dX11_init_560 rfl (by decide) ?_
  show Ev _ _ _ _ 561 210 _ _ [(2, 173)] [(2, (173 : Int))]
  refine ev_getf (j := 0) (t := 2) (x := (174 : Int)) dX11_init_561 cf_X11 wf_X11_7 sp173 (by decide) (by decide) rfl (by decide) rfl ?_
  show Ev _ _ _ _ 564 210 _ _ [(2, 173)] [(2, (174 : Int))]
  refine ev_bipush dX11_init_564 (by decide) (by decide) ?_
  show Ev _ _ _ _ 566 210 _ _ [(2, 173)] [(0, (85 : Int)), (2, (174 : Int))]
  refine ev_bipush dX11_init_566 (by decide) (by decide) ?_
  show Ev _ _ _ _ 568 210 _ _ [(2, 173)] [(0, (24 : Int)), (0, (85 : Int)), (2, (174 : Int))]
  refine ev_iast (X := some ()) (q := ()) dX11_init_568 sp174 (by decide) (by decide) (chk_pos ⟨by decide, by decide⟩) (fun _ => ?_)
  show Ev _ _ _ _ 569 210 _ _ [(2, 173)] []
  refine ev_aload_n dX11_init_569 rfl (by decide) ?_
  show Ev _ _ _ _ 570 210 _ _ [(2, 173)] [(2, (173 : Int))]
  refine ev_getf (j := 0) (t := 2) (x := (174 : Int)) dX11_init_570 cf_X11 wf_X11_7 sp173 (by decide) (by decide) rfl (by decide) rfl ?_
  show Ev _ _ _ _ 573 210 _ _ [(2, 173)] [(2, (174 : Int))]
  refine ev_bipush dX11_init_573 (by decide) (by decide) ?_
  show Ev _ _ _ _ 575 210 _ _ [(2, 173)] [(0, (86 : Int)), (2, (174 : Int))]
  refine ev_iconst dX11_init_575 (by decide) ?_
  show Ev _ _ _ _ 576 210 _ _ [(2, 173)] [(0, (1 : Int)), (0, (86 : Int)), (2, (174 : Int))]
  refine ev_iast (X := some ()) (q := ()) dX11_init_576 sp174 (by decide) (by decide) (chk_pos ⟨by decide, by decide⟩) (fun _ => ?_)
  show Ev _ _ _ _ 577 210 _ _ [(2, 173)] []
  refine ev_aload_n dX11_init_577 rfl (by decide) ?_
  show Ev _ _ _ _ 578 210 _ _ [(2, 173)] [(2, (173 : Int))]
  refine ev_getf (j := 0) (t := 2) (x := (174 : Int)) dX11_init_578 cf_X11 wf_X11_7 sp173 (by decide) (by decide) rfl (by decide) rfl ?_
  show Ev _ _ _ _ 581 210 _ _ [(2, 173)] [(2, (174 : Int))]
  refine ev_bipush dX11_init_581 (by decide) (by decide) ?_
  show Ev _ _ _ _ 583 210 _ _ [(2, 173)] [(0, (87 : Int)), (2, (174 : Int))]
  refine ev_iconst dX11_init_583 (by decide) ?_
  show Ev _ _ _ _ 584 210 _ _ [(2, 173)] [(0, (1 : Int)), (0, (87 : Int)), (2, (174 : Int))]
  refine ev_iast (X := some ()) (q := ()) dX11_init_584 sp174 (by decide) (by decide) (chk_pos ⟨by decide, by decide⟩) (fun _ => ?_)
  show Ev _ _ _ _ 585 210 _ _ [(2, 173)] []
  exact ev_vret dX11_init_585 rfl rfl
