set_option maxHeartbeats 4000000 in
set_option maxRecDepth 20000 in
theorem c_X0_become {σ : Mem} {x0 x1 : Int} (hx0 : isB x0) (hx1 : isB x1) {q : Mem} (h : f_X0_become σ x0 x1 = some q) : Ms yX0_become M_X0_become 181 181 [(2, x0), (2, x1)] rho σ (none, rho, q) := by
  refine Ms.of 0 (by decide +kernel) rfl (fun z => absurd z (by decide)) (fun _ _ _ => trivial) rfl rfl ?_
  unfold f_X0_become at h
  show Ev M_X0_become 181 181 _ 0 181 rho σ [(2, x0), (2, x1)] []
  refine ev_aload_n dX0_become_0 rfl (pB hx1).1 ?_
  refine ev_getf (j := 0) (t := 2) (x := (x1 + 1)) dX0_become_1 cf_X0 wf_X0_9 (sB hx1) (pB hx1).1 (pB hx1).2 rfl (by decide) (rB0 _ hx1) ?_
  refine ev_iconst dX0_become_4 (by decide) ?_
  refine ev_aload_n dX0_become_5 rfl (pB hx0).1 ?_
  refine ev_getf (j := 0) (t := 2) (x := (x0 + 1)) dX0_become_6 cf_X0 wf_X0_9 (sB hx0) (pB hx0).1 (pB hx0).2 rfl (by decide) (rB0 _ hx0) ?_
  refine ev_iconst dX0_become_9 (by decide) ?_
  refine ev_bipush dX0_become_10 (by decide) (by decide) ?_
  refine ev_copyiG dX0_become_12 wa_X0_46 wa_words (sB0 hx1) (pB0 hx1).1 (pB0 hx1).2 (sB0 hx0) (pB0 hx0).1 (pB0 hx0).2 (by decide) (Nat.le_of_ble_eq_true rfl) h (fun σ1 h => ?_)
  refine ev_aload_n dX0_become_15 rfl (pB hx1).1 ?_
  refine ev_getf (j := 1) (t := 2) (x := (x1 + 2)) dX0_become_16 cf_X0 wf_X0_15 (sB hx1) (pB hx1).1 (pB hx1).2 rfl (by decide) (rB1 _ hx1) ?_
  refine ev_iconst dX0_become_19 (by decide) ?_
  show Ev _ _ _ _ 20 _ _ _ _ _
  refine ev_aload_n dX0_become_20 rfl (pB hx0).1 ?_
  refine ev_getf (j := 1) (t := 2) (x := (x0 + 2)) dX0_become_21 cf_X0 wf_X0_15 (sB hx0) (pB hx0).1 (pB hx0).2 rfl (by decide) (rB1 _ hx0) ?_
  refine ev_iconst dX0_become_24 (by decide) ?_
  refine ev_bipush dX0_become_25 (by decide) (by decide) ?_
  refine ev_copyiG dX0_become_27 wa_X0_46 wa_words (sB1 hx1) (pB1 hx1).1 (pB1 hx1).2 (sB1 hx0) (pB1 hx0).1 (pB1 hx0).2 (by decide) (Nat.le_of_ble_eq_true rfl) h (fun σ2 h => ?_)
  refine ev_aload_n dX0_become_30 rfl (pB hx1).1 ?_
  refine ev_getf (j := 2) (t := 2) (x := (x1 + 3)) dX0_become_31 cf_X0 wf_X0_18 (sB hx1) (pB hx1).1 (pB hx1).2 rfl (by decide) (rB2 _ hx1) ?_
  refine ev_iconst dX0_become_34 (by decide) ?_
  refine ev_aload_n dX0_become_35 rfl (pB hx0).1 ?_
  refine ev_getf (j := 2) (t := 2) (x := (x0 + 3)) dX0_become_36 cf_X0 wf_X0_18 (sB hx0) (pB hx0).1 (pB hx0).2 rfl (by decide) (rB2 _ hx0) ?_
  refine ev_iconst dX0_become_39 (by decide) ?_
  refine ev_bipush dX0_become_40 (by decide) (by decide) ?_
  show Ev _ _ _ _ 42 _ _ _ _ _
  refine ev_copyiG dX0_become_42 wa_X0_46 wa_words (sB2 hx1) (pB2 hx1).1 (pB2 hx1).2 (sB2 hx0) (pB2 hx0).1 (pB2 hx0).2 (by decide) (Nat.le_of_ble_eq_true rfl) h (fun σ3 h => ?_)
  refine ev_aload_n dX0_become_45 rfl (pB hx1).1 ?_
  refine ev_getf (j := 3) (t := 2) (x := (x1 + 4)) dX0_become_46 cf_X0 wf_X0_21 (sB hx1) (pB hx1).1 (pB hx1).2 rfl (by decide) (rB3 _ hx1) ?_
  refine ev_iconst dX0_become_49 (by decide) ?_
  refine ev_aload_n dX0_become_50 rfl (pB hx0).1 ?_
  refine ev_getf (j := 3) (t := 2) (x := (x0 + 4)) dX0_become_51 cf_X0 wf_X0_21 (sB hx0) (pB hx0).1 (pB hx0).2 rfl (by decide) (rB3 _ hx0) ?_
  refine ev_iconst dX0_become_54 (by decide) ?_
  refine ev_bipush dX0_become_55 (by decide) (by decide) ?_
  refine ev_copyiG dX0_become_57 wa_X0_46 wa_words (sB3 hx1) (pB3 hx1).1 (pB3 hx1).2 (sB3 hx0) (pB3 hx0).1 (pB3 hx0).2 (by decide) (Nat.le_of_ble_eq_true rfl) h (fun σ4 h => ?_)
  refine ev_aload_n dX0_become_60 rfl (pB hx1).1 ?_
  refine ev_getf (j := 4) (t := 2) (x := (x1 + 5)) dX0_become_61 cf_X0 wf_X0_24 (sB hx1) (pB hx1).1 (pB hx1).2 rfl (by decide) (rB4 _ hx1) ?_
  refine ev_iconst dX0_become_64 (by decide) ?_
  show Ev _ _ _ _ 65 _ _ _ _ _
  refine ev_aload_n dX0_become_65 rfl (pB hx0).1 ?_
  refine ev_getf (j := 4) (t := 2) (x := (x0 + 5)) dX0_become_66 cf_X0 wf_X0_24 (sB hx0) (pB hx0).1 (pB hx0).2 rfl (by decide) (rB4 _ hx0) ?_
  refine ev_iconst dX0_become_69 (by decide) ?_
  refine ev_bipush dX0_become_70 (by decide) (by decide) ?_
  refine ev_copyiG dX0_become_72 wa_X0_46 wa_words (sB4 hx1) (pB4 hx1).1 (pB4 hx1).2 (sB4 hx0) (pB4 hx0).1 (pB4 hx0).2 (by decide) (Nat.le_of_ble_eq_true rfl) h (fun σ5 h => ?_)
  refine ev_aload_n dX0_become_75 rfl (pB hx1).1 ?_
  refine ev_getf (j := 5) (t := 2) (x := (x1 + 6)) dX0_become_76 cf_X0 wf_X0_27 (sB hx1) (pB hx1).1 (pB hx1).2 rfl (by decide) (rB5 _ hx1) ?_
  refine ev_iconst dX0_become_79 (by decide) ?_
  refine ev_aload_n dX0_become_80 rfl (pB hx0).1 ?_
  refine ev_getf (j := 5) (t := 2) (x := (x0 + 6)) dX0_become_81 cf_X0 wf_X0_27 (sB hx0) (pB hx0).1 (pB hx0).2 rfl (by decide) (rB5 _ hx0) ?_
  refine ev_iconst dX0_become_84 (by decide) ?_
  refine ev_bipush dX0_become_85 (by decide) (by decide) ?_
  show Ev _ _ _ _ 87 _ _ _ _ _
  refine ev_copyiG dX0_become_87 wa_X0_46 wa_words (sB5 hx1) (pB5 hx1).1 (pB5 hx1).2 (sB5 hx0) (pB5 hx0).1 (pB5 hx0).2 (by decide) (Nat.le_of_ble_eq_true rfl) h (fun σ6 h => ?_)
  refine ev_aload_n dX0_become_90 rfl (pB hx1).1 ?_
  refine ev_getf (j := 6) (t := 2) (x := (x1 + 7)) dX0_become_91 cf_X0 wf_X0_30 (sB hx1) (pB hx1).1 (pB hx1).2 rfl (by decide) (rB6 _ hx1) ?_
  refine ev_iconst dX0_become_94 (by decide) ?_
  refine ev_aload_n dX0_become_95 rfl (pB hx0).1 ?_
  refine ev_getf (j := 6) (t := 2) (x := (x0 + 7)) dX0_become_96 cf_X0 wf_X0_30 (sB hx0) (pB hx0).1 (pB hx0).2 rfl (by decide) (rB6 _ hx0) ?_
  refine ev_iconst dX0_become_99 (by decide) ?_
  refine ev_bipush dX0_become_100 (by decide) (by decide) ?_
  refine ev_copyiG dX0_become_102 wa_X0_46 wa_words (sB6 hx1) (pB6 hx1).1 (pB6 hx1).2 (sB6 hx0) (pB6 hx0).1 (pB6 hx0).2 (by decide) (Nat.le_of_ble_eq_true rfl) h (fun σ7 h => ?_)
  refine ev_aload_n dX0_become_105 rfl (pB hx1).1 ?_
  refine ev_getf (j := 7) (t := 2) (x := (x1 + 8)) dX0_become_106 cf_X0 wf_X0_33 (sB hx1) (pB hx1).1 (pB hx1).2 rfl (by decide) (rB7 _ hx1) ?_
  refine ev_iconst dX0_become_109 (by decide) ?_
  show Ev _ _ _ _ 110 _ _ _ _ _
  refine ev_aload_n dX0_become_110 rfl (pB hx0).1 ?_
  refine ev_getf (j := 7) (t := 2) (x := (x0 + 8)) dX0_become_111 cf_X0 wf_X0_33 (sB hx0) (pB hx0).1 (pB hx0).2 rfl (by decide) (rB7 _ hx0) ?_
  refine ev_iconst dX0_become_114 (by decide) ?_
  refine ev_bipush dX0_become_115 (by decide) (by decide) ?_
  refine ev_copyiG dX0_become_117 wa_X0_46 wa_words (sB7 hx1) (pB7 hx1).1 (pB7 hx1).2 (sB7 hx0) (pB7 hx0).1 (pB7 hx0).2 (by decide) (Nat.le_of_ble_eq_true rfl) h (fun σ8 h => ?_)
  refine ev_aload_n dX0_become_120 rfl (pB hx0).1 ?_
  refine ev_aload_n dX0_become_121 rfl (pB hx1).1 ?_
  refine ev_getf (j := 8) (t := 0) (x := (σ8 x1 8)) dX0_become_122 cf_X0 wf_X0_52 (sB hx1) (pB hx1).1 (pB hx1).2 rfl (by decide) rfl ?_
  refine ev_putfG (j := 8) (t := 0) dX0_become_125 cf_X0 wf_X0_52 (sB hx0) (pB hx0).1 (pB hx0).2 rfl (by decide) (by decide) rfl (fun z => absurd z (by decide +kernel)) h (fun σ9 h => ?_)
  refine ev_aload_n dX0_become_128 rfl (pB hx0).1 ?_
  refine ev_aload_n dX0_become_129 rfl (pB hx1).1 ?_
  refine ev_getf (j := 9) (t := 0) (x := (σ9 x1 9)) dX0_become_130 cf_X0 wf_X0_55 (sB hx1) (pB hx1).1 (pB hx1).2 rfl (by decide) rfl ?_
  show Ev _ _ _ _ 133 _ _ _ _ _
  refine ev_putfG (j := 9) (t := 0) dX0_become_133 cf_X0 wf_X0_55 (sB hx0) (pB hx0).1 (pB hx0).2 rfl (by decide) (by decide) rfl (fun z => absurd z (by decide +kernel)) h (fun σ10 h => ?_)
  refine ev_aload_n dX0_become_136 rfl (pB hx0).1 ?_
  refine ev_aload_n dX0_become_137 rfl (pB hx1).1 ?_
  refine ev_getf (j := 10) (t := 0) (x := (σ10 x1 10)) dX0_become_138 cf_X0 wf_X0_58 (sB hx1) (pB hx1).1 (pB hx1).2 rfl (by decide) rfl ?_
  refine ev_putfG (j := 10) (t := 0) dX0_become_141 cf_X0 wf_X0_58 (sB hx0) (pB hx0).1 (pB hx0).2 rfl (by decide) (by decide) rfl (fun z => absurd z (by decide +kernel)) h (fun σ11 h => ?_)
  refine ev_aload_n dX0_become_144 rfl (pB hx0).1 ?_
  refine ev_aload_n dX0_become_145 rfl (pB hx1).1 ?_
  refine ev_getf (j := 11) (t := 0) (x := (σ11 x1 11)) dX0_become_146 cf_X0 wf_X0_36 (sB hx1) (pB hx1).1 (pB hx1).2 rfl (by decide) rfl ?_
  refine ev_putfG (j := 11) (t := 0) dX0_become_149 cf_X0 wf_X0_36 (sB hx0) (pB hx0).1 (pB hx0).2 rfl (by decide) (by decide) rfl (fun z => absurd z (by decide +kernel)) h (fun σ12 h => ?_)
  refine ev_aload_n dX0_become_152 rfl (pB hx0).1 ?_
  refine ev_aload_n dX0_become_153 rfl (pB hx1).1 ?_
  refine ev_getf (j := 12) (t := 0) (x := (σ12 x1 12)) dX0_become_154 cf_X0 wf_X0_40 (sB hx1) (pB hx1).1 (pB hx1).2 rfl (by decide) rfl ?_
  show Ev _ _ _ _ 157 _ _ _ _ _
  refine ev_putfG (j := 12) (t := 0) dX0_become_157 cf_X0 wf_X0_40 (sB hx0) (pB hx0).1 (pB hx0).2 rfl (by decide) (by decide) rfl (fun z => absurd z (by decide +kernel)) h (fun σ13 h => ?_)
  refine ev_aload_n dX0_become_160 rfl (pB hx0).1 ?_
  refine ev_aload_n dX0_become_161 rfl (pB hx1).1 ?_
  refine ev_getf (j := 13) (t := 0) (x := (σ13 x1 13)) dX0_become_162 cf_X0 wf_X0_43 (sB hx1) (pB hx1).1 (pB hx1).2 rfl (by decide) rfl ?_
  refine ev_putfG (j := 13) (t := 0) dX0_become_165 cf_X0 wf_X0_43 (sB hx0) (pB hx0).1 (pB hx0).2 rfl (by decide) (by decide) rfl (fun z => absurd z (by decide +kernel)) h (fun σ14 h => ?_)
  obtain rfl := Option.some.inj h
  exact ev_vret dX0_become_168 rfl rfl
set_option maxHeartbeats 4000000 in
set_option maxRecDepth 20000 in
theorem c_X0_hasPaper {σ : Mem} {x0 x1 : Int} (hx0 : isB x0) {q : Int} (h : f_X0_hasPaper σ x0 x1 = some q) : Ms yX0_hasPaper M_X0_hasPaper 181 181 [(2, x0), (1, x1)] rho σ (some (0, q), rho, σ) := by
  refine Ms.of 0 (by decide +kernel) rfl (fun z => absurd z (by decide)) (fun _ _ _ => trivial) rfl rfl ?_
  unfold f_X0_hasPaper at h
  show Ev M_X0_hasPaper 181 181 _ 0 181 rho σ [(2, x0), (1, x1), (9, 0)] []
  refine ev_lload_n dX0_hasPaper_0 rfl ?_
  refine ev_lconst (x := (0 : Int)) dX0_hasPaper_1 (by decide) (by decide) ?_
  refine ev_lc_lt (tgt := 20) dX0_hasPaper_2 dX0_hasPaper_3 rfl h (fun cb h => ?_) (fun cb h => ?_)
  · refine ev_iconst dX0_hasPaper_20 (by decide) ?_
    obtain rfl := Option.some.inj h
    exact ev_zret dX0_hasPaper_21 rfl (chk_pos (.inl rfl))
  refine ev_lload_n dX0_hasPaper_6 rfl ?_
  refine ev_aload_n dX0_hasPaper_7 rfl (pB hx0).1 ?_
  refine ev_getf (j := 8) (t := 0) (x := (σ x0 8)) dX0_hasPaper_8 cf_X0 wf_X0_52 (sB hx0) (pB hx0).1 (pB hx0).2 rfl (by decide) rfl ?_
  refine ev_i2lk dX0_hasPaper_11 ?_
  refine ev_lc_ge (tgt := 20) dX0_hasPaper_12 dX0_hasPaper_13 rfl h (fun cb h => ?_) (fun cb h => ?_)
  · refine ev_iconst dX0_hasPaper_20 (by decide) ?_
    obtain rfl := Option.some.inj h
    exact ev_zret dX0_hasPaper_21 rfl (chk_pos (.inl rfl))
  refine ev_iconst dX0_hasPaper_16 (by decide) ?_
  refine ev_goto (tgt := 21) dX0_hasPaper_17 rfl ?_
  obtain rfl := Option.some.inj h
  exact ev_zret dX0_hasPaper_21 rfl (chk_pos (.inr rfl))
set_option maxHeartbeats 4000000 in
set_option maxRecDepth 20000 in
theorem c_X0_hasCand {σ : Mem} {x0 x1 : Int} (hx0 : isB x0) {q : Int} (h : f_X0_hasCand σ x0 x1 = some q) : Ms yX0_hasCand M_X0_hasCand 181 181 [(2, x0), (0, x1)] rho σ (some (0, q), rho, σ) := by
  refine Ms.of 0 (by decide +kernel) rfl (fun z => absurd z (by decide)) (fun _ _ _ => trivial) rfl rfl ?_
  unfold f_X0_hasCand at h
  show Ev M_X0_hasCand 181 181 _ 0 181 rho σ [(2, x0), (0, x1)] []
  refine ev_iload_n dX0_hasCand_0 rfl ?_
  refine ev_if_lt (tgt := 16) dX0_hasCand_1 rfl h (fun cb h => ?_) (fun cb h => ?_)
  · refine ev_iconst dX0_hasCand_16 (by decide) ?_
    obtain rfl := Option.some.inj h
    exact ev_zret dX0_hasCand_17 rfl (chk_pos (.inl rfl))
  refine ev_iload_n dX0_hasCand_4 rfl ?_
  refine ev_aload_n dX0_hasCand_5 rfl (pB hx0).1 ?_
  refine ev_getf (j := 9) (t := 0) (x := (σ x0 9)) dX0_hasCand_6 cf_X0 wf_X0_55 (sB hx0) (pB hx0).1 (pB hx0).2 rfl (by decide) rfl ?_
  refine ev_icmp_ge (tgt := 16) dX0_hasCand_9 rfl h (fun cb h => ?_) (fun cb h => ?_)
  · refine ev_iconst dX0_hasCand_16 (by decide) ?_
    obtain rfl := Option.some.inj h
    exact ev_zret dX0_hasCand_17 rfl (chk_pos (.inl rfl))
  refine ev_iconst dX0_hasCand_12 (by decide) ?_
  refine ev_goto (tgt := 17) dX0_hasCand_13 rfl ?_
  obtain rfl := Option.some.inj h
  exact ev_zret dX0_hasCand_17 rfl (chk_pos (.inr rfl))
set_option maxHeartbeats 4000000 in
set_option maxRecDepth 20000 in
theorem c_X0_hasRoom {σ : Mem} {x0 x1 : Int} (hx0 : isB x0) {q : Int} (h : f_X0_hasRoom σ x0 x1 = some q) : Ms yX0_hasRoom M_X0_hasRoom 181 181 [(2, x0), (0, x1)] rho σ (some (0, q), rho, σ) := by
  refine Ms.of 0 (by decide +kernel) rfl (fun z => absurd z (by decide)) (fun _ _ _ => trivial) rfl rfl ?_
  unfold f_X0_hasRoom at h
  show Ev M_X0_hasRoom 181 181 _ 0 181 rho σ [(2, x0), (0, x1)] []
  refine ev_iload_n dX0_hasRoom_0 rfl ?_
  refine ev_if_lt (tgt := 16) dX0_hasRoom_1 rfl h (fun cb h => ?_) (fun cb h => ?_)
  · refine ev_iconst dX0_hasRoom_16 (by decide) ?_
    obtain rfl := Option.some.inj h
    exact ev_zret dX0_hasRoom_17 rfl (chk_pos (.inl rfl))
  refine ev_iload_n dX0_hasRoom_4 rfl ?_
  refine ev_aload_n dX0_hasRoom_5 rfl (pB hx0).1 ?_
  refine ev_getf (j := 10) (t := 0) (x := (σ x0 10)) dX0_hasRoom_6 cf_X0 wf_X0_58 (sB hx0) (pB hx0).1 (pB hx0).2 rfl (by decide) rfl ?_
  refine ev_icmp_ge (tgt := 16) dX0_hasRoom_9 rfl h (fun cb h => ?_) (fun cb h => ?_)
  · refine ev_iconst dX0_hasRoom_16 (by decide) ?_
    obtain rfl := Option.some.inj h
    exact ev_zret dX0_hasRoom_17 rfl (chk_pos (.inl rfl))
  refine ev_iconst dX0_hasRoom_12 (by decide) ?_
  refine ev_goto (tgt := 17) dX0_hasRoom_13 rfl ?_
  obtain rfl := Option.some.inj h
  exact ev_zret dX0_hasRoom_17 rfl (chk_pos (.inr rfl))
set_option maxHeartbeats 4000000 in
set_option maxRecDepth 20000 in
theorem c_X0_addPaper {σ : Mem} {x0 x1 x2 x3 : Int} (hx0 : isB x0) {q : (Int × Mem)} (h : f_X0_addPaper σ x0 x1 x2 x3 = some q) : Ms yX0_addPaper M_X0_addPaper 181 181 [(2, x0), (0, x1), (0, x2), (0, x3)] rho σ (some (0, q.1), rho, q.2) := by
  refine Ms.of 0 (by decide +kernel) rfl (fun z => absurd z (by decide)) (fun _ _ _ => trivial) rfl rfl ?_
  unfold f_X0_addPaper at h
  show Ev M_X0_addPaper 181 181 _ 0 181 rho σ [(2, x0), (0, x1), (0, x2), (0, x3)] []
  refine ev_aload_n dX0_addPaper_0 rfl (pB hx0).1 ?_
  refine ev_getf (j := 8) (t := 0) (x := (σ x0 8)) dX0_addPaper_1 cf_X0 wf_X0_52 (sB hx0) (pB hx0).1 (pB hx0).2 rfl (by decide) rfl ?_
  refine ev_bipush dX0_addPaper_4 (by decide) (by decide) ?_
  refine ev_icmp_lt (tgt := 11) dX0_addPaper_6 rfl h (fun cb h => ?_) (fun cb h => ?_)
  · refine ev_aload_n dX0_addPaper_11 rfl (pB hx0).1 ?_
    refine ev_getf (j := 0) (t := 2) (x := (x0 + 1)) dX0_addPaper_12 cf_X0 wf_X0_9 (sB hx0) (pB hx0).1 (pB hx0).2 rfl (by decide) (rB0 _ hx0) ?_
    refine ev_aload_n dX0_addPaper_15 rfl (pB hx0).1 ?_
    refine ev_getf (j := 8) (t := 0) (x := (σ x0 8)) dX0_addPaper_16 cf_X0 wf_X0_52 (sB hx0) (pB hx0).1 (pB hx0).2 rfl (by decide) rfl ?_
    refine ev_iload_n dX0_addPaper_19 rfl ?_
    refine ev_iastG dX0_addPaper_20 (sB0 hx0) (pB0 hx0).1 (pB0 hx0).2 h (fun σ1 h => ?_)
    refine ev_aload_n dX0_addPaper_21 rfl (pB hx0).1 ?_
    refine ev_getf (j := 1) (t := 2) (x := (x0 + 2)) dX0_addPaper_22 cf_X0 wf_X0_15 (sB hx0) (pB hx0).1 (pB hx0).2 rfl (by decide) (rB1 _ hx0) ?_
    refine ev_aload_n dX0_addPaper_25 rfl (pB hx0).1 ?_
    refine ev_getf (j := 8) (t := 0) (x := (σ1 x0 8)) dX0_addPaper_26 cf_X0 wf_X0_52 (sB hx0) (pB hx0).1 (pB hx0).2 rfl (by decide) rfl ?_
    refine ev_iload_n dX0_addPaper_29 rfl ?_
    show Ev _ _ _ _ 30 _ _ _ _ _
    refine ev_iastG dX0_addPaper_30 (sB1 hx0) (pB1 hx0).1 (pB1 hx0).2 h (fun σ2 h => ?_)
    refine ev_aload_n dX0_addPaper_31 rfl (pB hx0).1 ?_
    refine ev_getf (j := 2) (t := 2) (x := (x0 + 3)) dX0_addPaper_32 cf_X0 wf_X0_18 (sB hx0) (pB hx0).1 (pB hx0).2 rfl (by decide) (rB2 _ hx0) ?_
    refine ev_aload_n dX0_addPaper_35 rfl (pB hx0).1 ?_
    refine ev_getf (j := 8) (t := 0) (x := (σ2 x0 8)) dX0_addPaper_36 cf_X0 wf_X0_52 (sB hx0) (pB hx0).1 (pB hx0).2 rfl (by decide) rfl ?_
    refine ev_iload_n dX0_addPaper_39 rfl ?_
    refine ev_iastG dX0_addPaper_40 (sB2 hx0) (pB2 hx0).1 (pB2 hx0).2 h (fun σ3 h => ?_)
    refine ev_aload_n dX0_addPaper_41 rfl (pB hx0).1 ?_
    refine ev_dup dX0_addPaper_42 (show (2 : Nat) ≠ 1 by decide) ?_
    refine ev_getf (j := 8) (t := 0) (x := (σ3 x0 8)) dX0_addPaper_43 cf_X0 wf_X0_52 (sB hx0) (pB hx0).1 (pB hx0).2 rfl (by decide) rfl ?_
    refine ev_iconst dX0_addPaper_46 (by decide) ?_
    refine ev_iadd dX0_addPaper_47 ?_
    show Ev _ _ _ _ 48 _ _ _ _ _
    refine ev_putfG (j := 8) (t := 0) dX0_addPaper_48 cf_X0 wf_X0_52 (sB hx0) (pB hx0).1 (pB hx0).2 rfl (by decide) (by decide) rfl (fun z => absurd z (by decide +kernel)) h (fun σ4 h => ?_)
    refine ev_aload_n dX0_addPaper_51 rfl (pB hx0).1 ?_
    refine ev_getf (j := 8) (t := 0) (x := (σ4 x0 8)) dX0_addPaper_52 cf_X0 wf_X0_52 (sB hx0) (pB hx0).1 (pB hx0).2 rfl (by decide) rfl ?_
    refine ev_iconst dX0_addPaper_55 (by decide) ?_
    refine ev_isub dX0_addPaper_56 ?_
    obtain rfl := Option.some.inj h
    dsimp only
    exact ev_iret dX0_addPaper_57 rfl rfl
  refine ev_iconst dX0_addPaper_9 (by decide) ?_
  obtain rfl := Option.some.inj h
  dsimp only
  exact ev_iret dX0_addPaper_10 rfl rfl
set_option maxHeartbeats 4000000 in
set_option maxRecDepth 20000 in
theorem c_X0_addCand {σ : Mem} {x0 x1 x2 : Int} (hx0 : isB x0) {q : (Int × Mem)} (h : f_X0_addCand σ x0 x1 x2 = some q) : Ms yX0_addCand M_X0_addCand 181 181 [(2, x0), (0, x1), (0, x2)] rho σ (some (0, q.1), rho, q.2) := by
  refine Ms.of 0 (by decide +kernel) rfl (fun z => absurd z (by decide)) (fun _ _ _ => trivial) rfl rfl ?_
  unfold f_X0_addCand at h
  show Ev M_X0_addCand 181 181 _ 0 181 rho σ [(2, x0), (0, x1), (0, x2)] []
  refine ev_aload_n dX0_addCand_0 rfl (pB hx0).1 ?_
  refine ev_getf (j := 9) (t := 0) (x := (σ x0 9)) dX0_addCand_1 cf_X0 wf_X0_55 (sB hx0) (pB hx0).1 (pB hx0).2 rfl (by decide) rfl ?_
  refine ev_bipush dX0_addCand_4 (by decide) (by decide) ?_
  refine ev_icmp_lt (tgt := 11) dX0_addCand_6 rfl h (fun cb h => ?_) (fun cb h => ?_)
  · refine ev_aload_n dX0_addCand_11 rfl (pB hx0).1 ?_
    refine ev_getf (j := 3) (t := 2) (x := (x0 + 4)) dX0_addCand_12 cf_X0 wf_X0_21 (sB hx0) (pB hx0).1 (pB hx0).2 rfl (by decide) (rB3 _ hx0) ?_
    refine ev_aload_n dX0_addCand_15 rfl (pB hx0).1 ?_
    refine ev_getf (j := 9) (t := 0) (x := (σ x0 9)) dX0_addCand_16 cf_X0 wf_X0_55 (sB hx0) (pB hx0).1 (pB hx0).2 rfl (by decide) rfl ?_
    refine ev_iload_n dX0_addCand_19 rfl ?_
    refine ev_iastG dX0_addCand_20 (sB3 hx0) (pB3 hx0).1 (pB3 hx0).2 h (fun σ1 h => ?_)
    refine ev_aload_n dX0_addCand_21 rfl (pB hx0).1 ?_
    refine ev_getf (j := 4) (t := 2) (x := (x0 + 5)) dX0_addCand_22 cf_X0 wf_X0_24 (sB hx0) (pB hx0).1 (pB hx0).2 rfl (by decide) (rB4 _ hx0) ?_
    refine ev_aload_n dX0_addCand_25 rfl (pB hx0).1 ?_
    refine ev_getf (j := 9) (t := 0) (x := (σ1 x0 9)) dX0_addCand_26 cf_X0 wf_X0_55 (sB hx0) (pB hx0).1 (pB hx0).2 rfl (by decide) rfl ?_
    refine ev_iload_n dX0_addCand_29 rfl ?_
    show Ev _ _ _ _ 30 _ _ _ _ _
    refine ev_iastG dX0_addCand_30 (sB4 hx0) (pB4 hx0).1 (pB4 hx0).2 h (fun σ2 h => ?_)
    refine ev_aload_n dX0_addCand_31 rfl (pB hx0).1 ?_
    refine ev_getf (j := 5) (t := 2) (x := (x0 + 6)) dX0_addCand_32 cf_X0 wf_X0_27 (sB hx0) (pB hx0).1 (pB hx0).2 rfl (by decide) (rB5 _ hx0) ?_
    refine ev_aload_n dX0_addCand_35 rfl (pB hx0).1 ?_
    refine ev_getf (j := 9) (t := 0) (x := (σ2 x0 9)) dX0_addCand_36 cf_X0 wf_X0_55 (sB hx0) (pB hx0).1 (pB hx0).2 rfl (by decide) rfl ?_
    refine ev_iconst dX0_addCand_39 (by decide) ?_
    refine ev_iastG dX0_addCand_40 (sB5 hx0) (pB5 hx0).1 (pB5 hx0).2 h (fun σ3 h => ?_)
    refine ev_aload_n dX0_addCand_41 rfl (pB hx0).1 ?_
    refine ev_getf (j := 6) (t := 2) (x := (x0 + 7)) dX0_addCand_42 cf_X0 wf_X0_30 (sB hx0) (pB hx0).1 (pB hx0).2 rfl (by decide) (rB6 _ hx0) ?_
    refine ev_aload_n dX0_addCand_45 rfl (pB hx0).1 ?_
    refine ev_getf (j := 9) (t := 0) (x := (σ3 x0 9)) dX0_addCand_46 cf_X0 wf_X0_55 (sB hx0) (pB hx0).1 (pB hx0).2 rfl (by decide) rfl ?_
    refine ev_iconst dX0_addCand_49 (by decide) ?_
    show Ev _ _ _ _ 50 _ _ _ _ _
    refine ev_iastG dX0_addCand_50 (sB6 hx0) (pB6 hx0).1 (pB6 hx0).2 h (fun σ4 h => ?_)
    refine ev_aload_n dX0_addCand_51 rfl (pB hx0).1 ?_
    refine ev_dup dX0_addCand_52 (show (2 : Nat) ≠ 1 by decide) ?_
    refine ev_getf (j := 9) (t := 0) (x := (σ4 x0 9)) dX0_addCand_53 cf_X0 wf_X0_55 (sB hx0) (pB hx0).1 (pB hx0).2 rfl (by decide) rfl ?_
    refine ev_iconst dX0_addCand_56 (by decide) ?_
    refine ev_iadd dX0_addCand_57 ?_
    refine ev_putfG (j := 9) (t := 0) dX0_addCand_58 cf_X0 wf_X0_55 (sB hx0) (pB hx0).1 (pB hx0).2 rfl (by decide) (by decide) rfl (fun z => absurd z (by decide +kernel)) h (fun σ5 h => ?_)
    refine ev_aload_n dX0_addCand_61 rfl (pB hx0).1 ?_
    refine ev_getf (j := 9) (t := 0) (x := (σ5 x0 9)) dX0_addCand_62 cf_X0 wf_X0_55 (sB hx0) (pB hx0).1 (pB hx0).2 rfl (by decide) rfl ?_
    refine ev_iconst dX0_addCand_65 (by decide) ?_
    refine ev_isub dX0_addCand_66 ?_
    obtain rfl := Option.some.inj h
    dsimp only
    exact ev_iret dX0_addCand_67 rfl rfl
  refine ev_iconst dX0_addCand_9 (by decide) ?_
  obtain rfl := Option.some.inj h
  dsimp only
  exact ev_iret dX0_addCand_10 rfl rfl
set_option maxHeartbeats 4000000 in
set_option maxRecDepth 20000 in
theorem c_X0_addRoom {σ : Mem} {x0 x1 : Int} (hx0 : isB x0) {q : (Int × Mem)} (h : f_X0_addRoom σ x0 x1 = some q) : Ms yX0_addRoom M_X0_addRoom 181 181 [(2, x0), (0, x1)] rho σ (some (0, q.1), rho, q.2) := by
  refine Ms.of 0 (by decide +kernel) rfl (fun z => absurd z (by decide)) (fun _ _ _ => trivial) rfl rfl ?_
  unfold f_X0_addRoom at h
  show Ev M_X0_addRoom 181 181 _ 0 181 rho σ [(2, x0), (0, x1)] []
  refine ev_aload_n dX0_addRoom_0 rfl (pB hx0).1 ?_
  refine ev_getf (j := 10) (t := 0) (x := (σ x0 10)) dX0_addRoom_1 cf_X0 wf_X0_58 (sB hx0) (pB hx0).1 (pB hx0).2 rfl (by decide) rfl ?_
  refine ev_bipush dX0_addRoom_4 (by decide) (by decide) ?_
  refine ev_icmp_lt (tgt := 11) dX0_addRoom_6 rfl h (fun cb h => ?_) (fun cb h => ?_)
  · refine ev_aload_n dX0_addRoom_11 rfl (pB hx0).1 ?_
    refine ev_getf (j := 7) (t := 2) (x := (x0 + 8)) dX0_addRoom_12 cf_X0 wf_X0_33 (sB hx0) (pB hx0).1 (pB hx0).2 rfl (by decide) (rB7 _ hx0) ?_
    refine ev_aload_n dX0_addRoom_15 rfl (pB hx0).1 ?_
    refine ev_getf (j := 10) (t := 0) (x := (σ x0 10)) dX0_addRoom_16 cf_X0 wf_X0_58 (sB hx0) (pB hx0).1 (pB hx0).2 rfl (by decide) rfl ?_
    refine ev_iload_n dX0_addRoom_19 rfl ?_
    refine ev_iastG dX0_addRoom_20 (sB7 hx0) (pB7 hx0).1 (pB7 hx0).2 h (fun σ1 h => ?_)
    refine ev_aload_n dX0_addRoom_21 rfl (pB hx0).1 ?_
    refine ev_dup dX0_addRoom_22 (show (2 : Nat) ≠ 1 by decide) ?_
    refine ev_getf (j := 10) (t := 0) (x := (σ1 x0 10)) dX0_addRoom_23 cf_X0 wf_X0_58 (sB hx0) (pB hx0).1 (pB hx0).2 rfl (by decide) rfl ?_
    refine ev_iconst dX0_addRoom_26 (by decide) ?_
    refine ev_iadd dX0_addRoom_27 ?_
    show Ev _ _ _ _ 28 _ _ _ _ _
    refine ev_putfG (j := 10) (t := 0) dX0_addRoom_28 cf_X0 wf_X0_58 (sB hx0) (pB hx0).1 (pB hx0).2 rfl (by decide) (by decide) rfl (fun z => absurd z (by decide +kernel)) h (fun σ2 h => ?_)
    refine ev_aload_n dX0_addRoom_31 rfl (pB hx0).1 ?_
    refine ev_getf (j := 10) (t := 0) (x := (σ2 x0 10)) dX0_addRoom_32 cf_X0 wf_X0_58 (sB hx0) (pB hx0).1 (pB hx0).2 rfl (by decide) rfl ?_
    refine ev_iconst dX0_addRoom_35 (by decide) ?_
    refine ev_isub dX0_addRoom_36 ?_
    obtain rfl := Option.some.inj h
    dsimp only
    exact ev_iret dX0_addRoom_37 rfl rfl
  refine ev_iconst dX0_addRoom_9 (by decide) ?_
  obtain rfl := Option.some.inj h
  dsimp only
  exact ev_iret dX0_addRoom_10 rfl rfl
set_option maxHeartbeats 4000000 in
set_option maxRecDepth 20000 in
theorem c_X10_hasBit {σ : Mem} {x0 x1 : Int}  {q : Int} (h : f_X10_hasBit σ x0 x1 = some q) : Ms yX10_hasBit M_X10_hasBit 181 181 [(0, x0), (0, x1)] rho σ (some (0, q), rho, σ) := by
  refine Ms.of 0 (by decide +kernel) rfl (fun z => absurd z (by decide)) (fun _ _ _ => trivial) rfl rfl ?_
  unfold f_X10_hasBit at h
  show Ev M_X10_hasBit 181 181 _ 0 181 rho σ [(0, x0), (0, x1)] []
  refine ev_iload_n dX10_hasBit_0 rfl ?_
  refine ev_iload_n dX10_hasBit_1 rfl ?_
  refine ev_ishr dX10_hasBit_2 ?_
  refine ev_iconst dX10_hasBit_3 (by decide) ?_
  refine ev_iand dX10_hasBit_4 ?_
  refine ev_if_eq (tgt := 12) dX10_hasBit_5 rfl h (fun cb h => ?_) (fun cb h => ?_)
  · refine ev_iconst dX10_hasBit_12 (by decide) ?_
    obtain rfl := Option.some.inj h
    exact ev_zret dX10_hasBit_13 rfl (chk_pos (.inl rfl))
  refine ev_iconst dX10_hasBit_8 (by decide) ?_
  refine ev_goto (tgt := 13) dX10_hasBit_9 rfl ?_
  obtain rfl := Option.some.inj h
  exact ev_zret dX10_hasBit_13 rfl (chk_pos (.inr rfl))
set_option maxHeartbeats 4000000 in
set_option maxRecDepth 20000 in
theorem c_X0_doesTake {σ : Mem} {x0 x1 x2 : Int} (hx0 : isB x0) {q : Int} (h : f_X0_doesTake σ x0 x1 x2 = some q) : Ms yX0_doesTake M_X0_doesTake 181 181 [(2, x0), (0, x1), (0, x2)] rho σ (some (0, q), rho, σ) := by
  refine Ms.of 0 (by decide +kernel) rfl (fun z => absurd z (by decide)) (fun _ _ _ => trivial) rfl rfl ?_
  unfold f_X0_doesTake at h
  show Ev M_X0_doesTake 181 181 _ 0 181 rho σ [(2, x0), (0, x1), (0, x2)] []
  refine ev_aload_n dX0_doesTake_0 rfl (pB hx0).1 ?_
  refine ev_getf (j := 6) (t := 2) (x := (x0 + 7)) dX0_doesTake_1 cf_X0 wf_X0_30 (sB hx0) (pB hx0).1 (pB hx0).2 rfl (by decide) (rB6 _ hx0) ?_
  refine ev_iload_n dX0_doesTake_4 rfl ?_
  refine ev_iald dX0_doesTake_5 (sB6 hx0) (pB6 hx0).1 (pB6 hx0).2 h (fun h => ?_)
  refine ev_iload_n dX0_doesTake_6 rfl ?_
  obtain ⟨v1, hc2, h⟩ := bind_of h
  refine ev_invSN_v (av := [(0, (σ (x0 + 7) x1)), (0, x2)]) (st := []) (v := (0, v1)) (τ := σ) dX0_doesTake_7 ml_X0_61 mt_X10_hasBit rfl ⟨Nat.le_of_ble_eq_true rfl, Nat.le_of_ble_eq_true rfl⟩ (Nat.le_of_ble_eq_true rfl) (c_X10_hasBit hc2) ?_
  obtain ⟨hz, h⟩ := chk_of h
  obtain rfl := Option.some.inj h
  exact ev_zret dX0_doesTake_10 rfl (chk_pos hz)
def K_X0_papersOf_4 (σ : Mem) (x0 x1 : Int) (r : Option V × Mem × Mem) : (Int × Int) ⊕ ((Int)) → Prop := Sum.elim (fun a => Ev M_X0_papersOf 181 181 r 4 181 rho σ [(2, x0), (0, x1), (0, a.1), (0, a.2)] []) (fun e => Ev M_X0_papersOf 181 181 r 34 181 rho σ [(9, 0), (9, 0), (0, e), (9, 0)] [])
set_option maxHeartbeats 4000000 in
set_option maxRecDepth 20000 in
theorem e_X0_papersOf_28 (σ : Mem) (x0 x1 x2 x3 : Int) (hx0 : isB x0) {q : ((Int × Int) ⊕ ((Int)))} (h : f_X0_papersOf_28 σ x0 x1 x2 x3 = some q) {r : Option V × Mem × Mem} (K : K_X0_papersOf_4 σ x0 x1 r q) : Ev M_X0_papersOf 181 181 r 28 181 rho σ [(2, x0), (0, x1), (0, x2), (0, x3)] [] := by
  unfold f_X0_papersOf_28 at h
  refine ev_iincG dX0_papersOf_28 rfl h rfl (fun v2 h => ?_)
  show Ev _ _ _ _ 31 _ _ _ [(2, x0), (0, x1), (0, x2), (0, v2)] _
  refine ev_goto (tgt := 4) dX0_papersOf_31 rfl ?_
  obtain rfl := Option.some.inj h
  exact ev_sub (L2 := [(2, x0), (0, x1), (0, x2), (0, v2)]) K ⟨.inr rfl, .inr rfl, .inr rfl, .inr rfl, trivial⟩
set_option maxHeartbeats 4000000 in
set_option maxRecDepth 20000 in
theorem b_X0_papersOf_4 (σ : Mem) (x0 x1 : Int) (hx0 : isB x0) {r : Option V × Mem × Mem} : ∀ a x, f_X0_papersOf_4B σ x0 x1 a = some x → K_X0_papersOf_4 σ x0 x1 r x → K_X0_papersOf_4 σ x0 x1 r (.inl a) := by
  intro a x h K
  obtain ⟨x2, x3⟩ := a
  have h : f_X0_papersOf_4C σ x0 x1 x2 x3 = some x := h
  unfold f_X0_papersOf_4C at h
  show Ev M_X0_papersOf 181 181 r 4 181 rho σ [(2, x0), (0, x1), (0, x2), (0, x3)] []
  refine ev_iload_n dX0_papersOf_4 rfl ?_
  refine ev_aload_n dX0_papersOf_5 rfl (pB hx0).1 ?_
  refine ev_getf (j := 8) (t := 0) (x := (σ x0 8)) dX0_papersOf_6 cf_X0 wf_X0_52 (sB hx0) (pB hx0).1 (pB hx0).2 rfl (by decide) rfl ?_
  refine ev_icmp_ge (tgt := 34) dX0_papersOf_9 rfl h (fun cb h => ?_) (fun cb h => ?_)
  · obtain rfl := Option.some.inj h
    exact ev_sub (L2 := [(9, 0), (9, 0), (0, x2), (9, 0)]) K ⟨.inl rfl, .inl rfl, .inr rfl, .inl rfl, trivial⟩
  refine ev_aload_n dX0_papersOf_12 rfl (pB hx0).1 ?_
  refine ev_getf (j := 0) (t := 2) (x := (x0 + 1)) dX0_papersOf_13 cf_X0 wf_X0_9 (sB hx0) (pB hx0).1 (pB hx0).2 rfl (by decide) (rB0 _ hx0) ?_
  refine ev_iload_n dX0_papersOf_16 rfl ?_
  refine ev_iald dX0_papersOf_17 (sB0 hx0) (pB0 hx0).1 (pB0 hx0).2 h (fun h => ?_)
  refine ev_iload_n dX0_papersOf_18 rfl ?_
  refine ev_icmp_ne (tgt := 28) dX0_papersOf_19 rfl h (fun cb h => ?_) (fun cb h => ?_)
  · exact ev_sub (L2 := [(2, x0), (0, x1), (0, x2), (0, x3)]) (e_X0_papersOf_28 σ x0 x1 x2 x3 hx0 h K) ⟨.inr rfl, .inr rfl, .inr rfl, .inr rfl, trivial⟩
  refine ev_iload_n dX0_papersOf_22 rfl ?_
  refine ev_iconst dX0_papersOf_23 (by decide) ?_
  refine ev_iload_n dX0_papersOf_24 rfl ?_
  refine ev_ishl dX0_papersOf_25 ?_
  refine ev_ior dX0_papersOf_26 ?_
  refine ev_istore_nG dX0_papersOf_27 h rfl (by decide) (fun v1 h => ?_)
  show Ev _ _ _ _ 28 _ _ _ [(2, x0), (0, x1), (0, v1), (0, x3)] _
  exact ev_sub (L2 := [(2, x0), (0, x1), (0, v1), (0, x3)]) (e_X0_papersOf_28 σ x0 x1 v1 x3 hx0 h K) ⟨.inr rfl, .inr rfl, .inr rfl, .inr rfl, trivial⟩
set_option maxHeartbeats 4000000 in
set_option maxRecDepth 20000 in
theorem e_X0_papersOf_4 (σ : Mem) (x0 x1 x2 x3 : Int) (hx0 : isB x0) {q : Int} (h : f_X0_papersOf_4 σ x0 x1 x2 x3 = some q) : Ev M_X0_papersOf 181 181 (some (0, q), rho, σ) 4 181 rho σ [(2, x0), (0, x1), (0, x2), (0, x3)] [] := by
  unfold f_X0_papersOf_4 at h
  obtain ⟨e, hl, h⟩ := bind_of h
  refine loop_ev (K := K_X0_papersOf_4 σ x0 x1 (some (0, q), rho, σ)) (b_X0_papersOf_4 σ x0 x1 hx0) FU (x2, x3) e hl ?_
  show Ev M_X0_papersOf 181 181 _ 34 181 rho σ [(9, 0), (9, 0), (0, e), (9, 0)] []
  replace h : some e = some q := h
  refine ev_iload_n dX0_papersOf_34 rfl ?_
  obtain rfl := Option.some.inj h
  exact ev_iret dX0_papersOf_35 rfl rfl
set_option maxHeartbeats 4000000 in
set_option maxRecDepth 20000 in
theorem c_X0_papersOf {σ : Mem} {x0 x1 : Int} (hx0 : isB x0) {q : Int} (h : f_X0_papersOf σ x0 x1 = some q) : Ms yX0_papersOf M_X0_papersOf 181 181 [(2, x0), (0, x1)] rho σ (some (0, q), rho, σ) := by
  refine Ms.of 2 (by decide +kernel) rfl (fun z => absurd z (by decide)) (fun _ _ _ => trivial) rfl rfl ?_
  unfold f_X0_papersOf at h
  show Ev M_X0_papersOf 181 181 _ 0 181 rho σ [(2, x0), (0, x1), (9, 0), (9, 0)] []
  refine ev_iconst dX0_papersOf_0 (by decide) ?_
  refine ev_istore_n dX0_papersOf_1 rfl (by decide) ?_
  show Ev _ _ _ _ 2 _ _ _ [(2, x0), (0, x1), (0, (0 : Int)), (9, 0)] _
  refine ev_iconst dX0_papersOf_2 (by decide) ?_
  refine ev_istore_n dX0_papersOf_3 rfl (by decide) ?_
  show Ev _ _ _ _ 4 _ _ _ [(2, x0), (0, x1), (0, (0 : Int)), (0, (0 : Int))] _
  exact ev_sub (L2 := [(2, x0), (0, x1), (0, (0 : Int)), (0, (0 : Int))]) (e_X0_papersOf_4 σ x0 x1 (0 : Int) (0 : Int) hx0 h) ⟨.inr rfl, .inr rfl, .inr rfl, .inr rfl, trivial⟩
set_option maxHeartbeats 4000000 in
set_option maxRecDepth 20000 in
theorem c_J6_bitCount_0f7a4 {σ : Mem} {x0 : Int}  {q : Int} (h : f_J6_bitCount_0f7a4 σ x0 = some q) : Ms yJ6_bitCount_0f7a4 M_J6_bitCount_0f7a4 181 181 [(0, x0)] rho σ (some (0, q), rho, σ) := by
  refine Ms.of 0 (by decide +kernel) rfl (fun z => absurd z (by decide)) (fun _ _ _ => trivial) rfl rfl ?_
  unfold f_J6_bitCount_0f7a4 at h
  show Ev M_J6_bitCount_0f7a4 181 181 _ 0 181 rho σ [(0, x0)] []
  refine ev_iload_n dJ6_bitCount_0f7a4_0 rfl ?_
  refine ev_iload_n dJ6_bitCount_0f7a4_1 rfl ?_
  refine ev_iconst dJ6_bitCount_0f7a4_2 (by decide) ?_
  refine ev_iushr dJ6_bitCount_0f7a4_3 ?_
  refine ev_ldcw (x := (1431655765 : Int)) dJ6_bitCount_0f7a4_4 wc_J6_265 (by decide) (by decide) ?_
  refine ev_iand dJ6_bitCount_0f7a4_7 ?_
  refine ev_isub dJ6_bitCount_0f7a4_8 ?_
  refine ev_istore_nG dJ6_bitCount_0f7a4_9 h rfl (by decide) (fun v1 h => ?_)
  show Ev _ _ _ _ 10 _ _ _ [(0, v1)] _
  refine ev_iload_n dJ6_bitCount_0f7a4_10 rfl ?_
  refine ev_ldcw (x := (858993459 : Int)) dJ6_bitCount_0f7a4_11 wc_J6_266 (by decide) (by decide) ?_
  refine ev_iand dJ6_bitCount_0f7a4_14 ?_
  show Ev _ _ _ _ 15 _ _ _ _ _
  refine ev_iload_n dJ6_bitCount_0f7a4_15 rfl ?_
  refine ev_iconst dJ6_bitCount_0f7a4_16 (by decide) ?_
  refine ev_iushr dJ6_bitCount_0f7a4_17 ?_
  refine ev_ldcw (x := (858993459 : Int)) dJ6_bitCount_0f7a4_18 wc_J6_266 (by decide) (by decide) ?_
  refine ev_iand dJ6_bitCount_0f7a4_21 ?_
  refine ev_iadd dJ6_bitCount_0f7a4_22 ?_
  refine ev_istore_nG dJ6_bitCount_0f7a4_23 h rfl (by decide) (fun v2 h => ?_)
  show Ev _ _ _ _ 24 _ _ _ [(0, v2)] _
  refine ev_iload_n dJ6_bitCount_0f7a4_24 rfl ?_
  refine ev_iload_n dJ6_bitCount_0f7a4_25 rfl ?_
  refine ev_iconst dJ6_bitCount_0f7a4_26 (by decide) ?_
  refine ev_iushr dJ6_bitCount_0f7a4_27 ?_
  refine ev_iadd dJ6_bitCount_0f7a4_28 ?_
  show Ev _ _ _ _ 29 _ _ _ _ _
  refine ev_ldcw (x := (252645135 : Int)) dJ6_bitCount_0f7a4_29 wc_J6_267 (by decide) (by decide) ?_
  refine ev_iand dJ6_bitCount_0f7a4_32 ?_
  refine ev_istore_nG dJ6_bitCount_0f7a4_33 h rfl (by decide) (fun v3 h => ?_)
  show Ev _ _ _ _ 34 _ _ _ [(0, v3)] _
  refine ev_iload_n dJ6_bitCount_0f7a4_34 rfl ?_
  refine ev_iload_n dJ6_bitCount_0f7a4_35 rfl ?_
  refine ev_bipush dJ6_bitCount_0f7a4_36 (by decide) (by decide) ?_
  refine ev_iushr dJ6_bitCount_0f7a4_38 ?_
  refine ev_iadd dJ6_bitCount_0f7a4_39 ?_
  refine ev_istore_nG dJ6_bitCount_0f7a4_40 h rfl (by decide) (fun v4 h => ?_)
  show Ev _ _ _ _ 41 _ _ _ [(0, v4)] _
  refine ev_iload_n dJ6_bitCount_0f7a4_41 rfl ?_
  refine ev_iload_n dJ6_bitCount_0f7a4_42 rfl ?_
  refine ev_bipush dJ6_bitCount_0f7a4_43 (by decide) (by decide) ?_
  show Ev _ _ _ _ 45 _ _ _ _ _
  refine ev_iushr dJ6_bitCount_0f7a4_45 ?_
  refine ev_iadd dJ6_bitCount_0f7a4_46 ?_
  refine ev_istore_nG dJ6_bitCount_0f7a4_47 h rfl (by decide) (fun v5 h => ?_)
  show Ev _ _ _ _ 48 _ _ _ [(0, v5)] _
  refine ev_iload_n dJ6_bitCount_0f7a4_48 rfl ?_
  refine ev_bipush dJ6_bitCount_0f7a4_49 (by decide) (by decide) ?_
  refine ev_iand dJ6_bitCount_0f7a4_51 ?_
  obtain rfl := Option.some.inj h
  exact ev_iret dJ6_bitCount_0f7a4_52 rfl rfl
set_option maxHeartbeats 4000000 in
set_option maxRecDepth 20000 in
theorem e_X0_mayFlip_33 (σ : Mem)  {q : Int} (h : f_X0_mayFlip_33 σ  = some q) : Ev M_X0_mayFlip 181 181 (some (0, q), rho, σ) 33 181 rho σ [(9, 0), (9, 0), (9, 0)] [] := by
  unfold f_X0_mayFlip_33 at h
  refine ev_iconst dX0_mayFlip_33 (by decide) ?_
  refine ev_goto (tgt := 38) dX0_mayFlip_34 rfl ?_
  obtain rfl := Option.some.inj h
  exact ev_zret dX0_mayFlip_38 rfl (chk_pos (.inr rfl))
set_option maxHeartbeats 4000000 in
set_option maxRecDepth 20000 in
theorem c_X0_mayFlip {σ : Mem} {x0 x1 x2 : Int} (hx0 : isB x0) {q : Int} (h : f_X0_mayFlip σ x0 x1 x2 = some q) : Ms yX0_mayFlip M_X0_mayFlip 181 181 [(2, x0), (0, x1), (0, x2)] rho σ (some (0, q), rho, σ) := by
  refine Ms.of 0 (by decide +kernel) rfl (fun z => absurd z (by decide)) (fun _ _ _ => trivial) rfl rfl ?_
  unfold f_X0_mayFlip at h
  show Ev M_X0_mayFlip 181 181 _ 0 181 rho σ [(2, x0), (0, x1), (0, x2)] []
  refine ev_aload_n dX0_mayFlip_0 rfl (pB hx0).1 ?_
  refine ev_iload_n dX0_mayFlip_1 rfl ?_
  refine ev_iload_n dX0_mayFlip_2 rfl ?_
  obtain ⟨v1, hc2, h⟩ := bind_of h
  refine ev_invV_v (k := x0) (av := [(0, x1), (0, x2)]) (st := []) (v := (0, v1)) (τ := σ) dX0_mayFlip_3 ml_X0_65 mv_X0_doesTake (T := TX0) (ci := 0) rfl (sB hx0) (pB hx0).1 (pB hx0).2 rfl ⟨Nat.le_of_ble_eq_true rfl, Nat.le_of_ble_eq_true rfl⟩ (Nat.le_of_ble_eq_true rfl) (c_X0_doesTake hx0 hc2) ?_
  refine ev_if_ne (tgt := 33) dX0_mayFlip_6 rfl h (fun cb h => ?_) (fun cb h => ?_)
  · exact ev_sub (L2 := [(9, 0), (9, 0), (9, 0)]) (e_X0_mayFlip_33 σ h) ⟨.inl rfl, .inl rfl, .inl rfl, trivial⟩
  refine ev_aload_n dX0_mayFlip_9 rfl (pB hx0).1 ?_
  refine ev_getf (j := 6) (t := 2) (x := (x0 + 7)) dX0_mayFlip_10 cf_X0 wf_X0_30 (sB hx0) (pB hx0).1 (pB hx0).2 rfl (by decide) (rB6 _ hx0) ?_
  refine ev_iload_n dX0_mayFlip_13 rfl ?_
  refine ev_iald dX0_mayFlip_14 (sB6 hx0) (pB6 hx0).1 (pB6 hx0).2 h (fun h => ?_)
  refine ev_aload_n dX0_mayFlip_15 rfl (pB hx0).1 ?_
  refine ev_aload_n dX0_mayFlip_16 rfl (pB hx0).1 ?_
  refine ev_getf (j := 0) (t := 2) (x := (x0 + 1)) dX0_mayFlip_17 cf_X0 wf_X0_9 (sB hx0) (pB hx0).1 (pB hx0).2 rfl (by decide) (rB0 _ hx0) ?_
  refine ev_iload_n dX0_mayFlip_20 rfl ?_
  refine ev_iald dX0_mayFlip_21 (sB0 hx0) (pB0 hx0).1 (pB0 hx0).2 h (fun h => ?_)
  obtain ⟨v3, hc4, h⟩ := bind_of h
  refine ev_invV_v (k := x0) (av := [(0, (σ (x0 + 1) x2))]) (st := [(0, (σ (x0 + 7) x1))]) (v := (0, v3)) (τ := σ) dX0_mayFlip_22 ml_X0_68 mv_X0_papersOf (T := TX0) (ci := 0) rfl (sB hx0) (pB hx0).1 (pB hx0).2 rfl ⟨Nat.le_of_ble_eq_true rfl, Nat.le_of_ble_eq_true rfl⟩ (Nat.le_of_ble_eq_true rfl) (c_X0_papersOf hx0 hc4) ?_
  refine ev_iand dX0_mayFlip_25 ?_
  show Ev _ _ _ _ 26 _ _ _ _ _
  obtain ⟨v5, hc6, h⟩ := bind_of h
  refine ev_invS_v (av := [(0, (jand (σ (x0 + 7) x1) v3))]) (st := []) (v := (0, v5)) (τ := σ) dX0_mayFlip_26 ml_X0_72 mt_J6_bitCount_0f7a4 rfl ⟨Nat.le_of_ble_eq_true rfl, Nat.le_of_ble_eq_true rfl⟩ (Nat.le_of_ble_eq_true rfl) (c_J6_bitCount_0f7a4 hc6) ?_
  refine ev_iconst dX0_mayFlip_29 (by decide) ?_
  refine ev_icmp_ge (tgt := 37) dX0_mayFlip_30 rfl h (fun cb h => ?_) (fun cb h => ?_)
  · refine ev_iconst dX0_mayFlip_37 (by decide) ?_
    obtain rfl := Option.some.inj h
    exact ev_zret dX0_mayFlip_38 rfl (chk_pos (.inl rfl))
  exact ev_sub (L2 := [(9, 0), (9, 0), (9, 0)]) (e_X0_mayFlip_33 σ h) ⟨.inl rfl, .inl rfl, .inl rfl, trivial⟩
set_option maxHeartbeats 4000000 in
set_option maxRecDepth 20000 in
theorem c_X0_flip {σ : Mem} {x0 x1 x2 : Int} (hx0 : isB x0) {q : Mem} (h : f_X0_flip σ x0 x1 x2 = some q) : Ms yX0_flip M_X0_flip 181 181 [(2, x0), (0, x1), (0, x2)] rho σ (none, rho, q) := by
  refine Ms.of 0 (by decide +kernel) rfl (fun z => absurd z (by decide)) (fun _ _ _ => trivial) rfl rfl ?_
  unfold f_X0_flip at h
  show Ev M_X0_flip 181 181 _ 0 181 rho σ [(2, x0), (0, x1), (0, x2)] []
  refine ev_aload_n dX0_flip_0 rfl (pB hx0).1 ?_
  refine ev_getf (j := 6) (t := 2) (x := (x0 + 7)) dX0_flip_1 cf_X0 wf_X0_30 (sB hx0) (pB hx0).1 (pB hx0).2 rfl (by decide) (rB6 _ hx0) ?_
  refine ev_iload_n dX0_flip_4 rfl ?_
  refine ev_dup2 dX0_flip_5 (show (0 : Nat) ≠ 1 by decide) (show (2 : Nat) ≠ 1 by decide) ?_
  refine ev_iald dX0_flip_6 (sB6 hx0) (pB6 hx0).1 (pB6 hx0).2 h (fun h => ?_)
  refine ev_iconst dX0_flip_7 (by decide) ?_
  refine ev_iload_n dX0_flip_8 rfl ?_
  refine ev_ishl dX0_flip_9 ?_
  refine ev_ixor dX0_flip_10 ?_
  refine ev_iastG dX0_flip_11 (sB6 hx0) (pB6 hx0).1 (pB6 hx0).2 h (fun σ1 h => ?_)
  obtain rfl := Option.some.inj h
  exact ev_vret dX0_flip_12 rfl rfl
set_option maxHeartbeats 4000000 in
set_option maxRecDepth 20000 in
theorem c_X2_timeOf {σ : Mem} {x0 x1 x2 : Int}  {q : Int} (h : f_X2_timeOf σ x0 x1 x2 = some q) : Ms yX2_timeOf M_X2_timeOf 181 181 [(0, x0), (0, x1), (0, x2)] rho σ (some (0, q), rho, σ) := by
  refine Ms.of 1 (by decide +kernel) rfl (fun z => absurd z (by decide)) (fun _ _ _ => trivial) rfl rfl ?_
  unfold f_X2_timeOf at h
  show Ev M_X2_timeOf 181 181 _ 0 181 rho σ [(0, x0), (0, x1), (0, x2), (9, 0)] []
  refine ev_iload_n dX2_timeOf_0 rfl ?_
  refine ev_iload_n dX2_timeOf_1 rfl ?_
  refine ev_iload_n dX2_timeOf_2 rfl ?_
  refine ev_imul dX2_timeOf_3 ?_
  refine ev_bipush dX2_timeOf_4 (by decide) (by decide) ?_
  refine ev_iadd dX2_timeOf_6 ?_
  refine ev_bipush dX2_timeOf_7 (by decide) (by decide) ?_
  refine ev_idiv dX2_timeOf_9 h (fun h => ?_)
  refine ev_iadd dX2_timeOf_10 ?_
  refine ev_istore_nG dX2_timeOf_11 h rfl (by decide) (fun v1 h => ?_)
  show Ev _ _ _ _ 12 _ _ _ [(0, x0), (0, x1), (0, x2), (0, v1)] _
  refine ev_iload_n dX2_timeOf_12 rfl ?_
  show Ev _ _ _ _ 13 _ _ _ _ _
  refine ev_by h (fun cs h => ?_) (fun cs0 h => ?_)
  · refine ev_tswIn (off := 35) (tgt := 48) dX2_timeOf_13 (by rw [cs]; decide) (by rw [cs]; decide) (by rw [cs]; rfl) rfl ?_
    refine ev_iload_n dX2_timeOf_48 rfl ?_
    obtain rfl := Option.some.inj h
    exact ev_iret dX2_timeOf_49 rfl rfl
  refine ev_by h (fun cs h => ?_) (fun cs1 h => ?_)
  · refine ev_tswIn (off := 45) (tgt := 58) dX2_timeOf_13 (by rw [cs]; decide) (by rw [cs]; decide) (by rw [cs]; rfl) rfl ?_
    refine ev_iload_n dX2_timeOf_58 rfl ?_
    obtain rfl := Option.some.inj h
    exact ev_iret dX2_timeOf_59 rfl rfl
  refine ev_by h (fun cs h => ?_) (fun cs2 h => ?_)
  · refine ev_tswIn (off := 37) (tgt := 50) dX2_timeOf_13 (by rw [cs]; decide) (by rw [cs]; decide) (by rw [cs]; rfl) rfl ?_
    refine ev_iload_n dX2_timeOf_50 rfl ?_
    refine ev_iconst dX2_timeOf_51 (by decide) ?_
    refine ev_iadd dX2_timeOf_52 ?_
    obtain rfl := Option.some.inj h
    exact ev_iret dX2_timeOf_53 rfl rfl
  refine ev_by h (fun cs h => ?_) (fun cs3 h => ?_)
  · refine ev_tswIn (off := 45) (tgt := 58) dX2_timeOf_13 (by rw [cs]; decide) (by rw [cs]; decide) (by rw [cs]; rfl) rfl ?_
    refine ev_iload_n dX2_timeOf_58 rfl ?_
    obtain rfl := Option.some.inj h
    exact ev_iret dX2_timeOf_59 rfl rfl
  refine ev_by h (fun cs h => ?_) (fun cs4 h => ?_)
  · refine ev_tswIn (off := 41) (tgt := 54) dX2_timeOf_13 (by rw [cs]; decide) (by rw [cs]; decide) (by rw [cs]; rfl) rfl ?_
    refine ev_iload_n dX2_timeOf_54 rfl ?_
    refine ev_iconst dX2_timeOf_55 (by decide) ?_
    refine ev_iadd dX2_timeOf_56 ?_
    obtain rfl := Option.some.inj h
    exact ev_iret dX2_timeOf_57 rfl rfl
  refine ev_tswOut (tgt := 58) dX2_timeOf_13 (by omega) rfl ?_
  refine ev_iload_n dX2_timeOf_58 rfl ?_
  obtain rfl := Option.some.inj h
  exact ev_iret dX2_timeOf_59 rfl rfl
set_option maxHeartbeats 4000000 in
set_option maxRecDepth 20000 in
theorem c_X0_timeFor {σ : Mem} {x0 x1 x2 : Int} (hx0 : isB x0) {q : Int} (h : f_X0_timeFor σ x0 x1 x2 = some q) : Ms yX0_timeFor M_X0_timeFor 181 181 [(2, x0), (0, x1), (0, x2)] rho σ (some (0, q), rho, σ) := by
  refine Ms.of 0 (by decide +kernel) rfl (fun z => absurd z (by decide)) (fun _ _ _ => trivial) rfl rfl ?_
  unfold f_X0_timeFor at h
  show Ev M_X0_timeFor 181 181 _ 0 181 rho σ [(2, x0), (0, x1), (0, x2)] []
  refine ev_aload_n dX0_timeFor_0 rfl (pB hx0).1 ?_
  refine ev_getf (j := 3) (t := 2) (x := (x0 + 4)) dX0_timeFor_1 cf_X0 wf_X0_21 (sB hx0) (pB hx0).1 (pB hx0).2 rfl (by decide) (rB3 _ hx0) ?_
  refine ev_iload_n dX0_timeFor_4 rfl ?_
  refine ev_iald dX0_timeFor_5 (sB3 hx0) (pB3 hx0).1 (pB3 hx0).2 h (fun h => ?_)
  refine ev_aload_n dX0_timeFor_6 rfl (pB hx0).1 ?_
  refine ev_getf (j := 4) (t := 2) (x := (x0 + 5)) dX0_timeFor_7 cf_X0 wf_X0_24 (sB hx0) (pB hx0).1 (pB hx0).2 rfl (by decide) (rB4 _ hx0) ?_
  refine ev_iload_n dX0_timeFor_10 rfl ?_
  refine ev_iald dX0_timeFor_11 (sB4 hx0) (pB4 hx0).1 (pB4 hx0).2 h (fun h => ?_)
  refine ev_aload_n dX0_timeFor_12 rfl (pB hx0).1 ?_
  refine ev_getf (j := 2) (t := 2) (x := (x0 + 3)) dX0_timeFor_13 cf_X0 wf_X0_18 (sB hx0) (pB hx0).1 (pB hx0).2 rfl (by decide) (rB2 _ hx0) ?_
  refine ev_iload_n dX0_timeFor_16 rfl ?_
  show Ev _ _ _ _ 17 _ _ _ _ _
  refine ev_iald dX0_timeFor_17 (sB2 hx0) (pB2 hx0).1 (pB2 hx0).2 h (fun h => ?_)
  obtain ⟨v1, hc2, h⟩ := bind_of h
  refine ev_invS_v (av := [(0, (σ (x0 + 4) x1)), (0, (σ (x0 + 5) x1)), (0, (σ (x0 + 3) x2))]) (st := []) (v := (0, v1)) (τ := σ) dX0_timeFor_18 ml_X0_77 mt_X2_timeOf rfl ⟨Nat.le_of_ble_eq_true rfl, Nat.le_of_ble_eq_true rfl⟩ (Nat.le_of_ble_eq_true rfl) (c_X2_timeOf hc2) ?_
  obtain rfl := Option.some.inj h
  exact ev_iret dX0_timeFor_21 rfl rfl
set_option maxHeartbeats 4000000 in
set_option maxRecDepth 20000 in
theorem c_X2_restOf {σ : Mem} {x0 x1 : Int}  {q : Int} (h : f_X2_restOf σ x0 x1 = some q) : Ms yX2_restOf M_X2_restOf 181 181 [(0, x0), (0, x1)] rho σ (some (0, q), rho, σ) := by
  refine Ms.of 1 (by decide +kernel) rfl (fun z => absurd z (by decide)) (fun _ _ _ => trivial) rfl rfl ?_
  unfold f_X2_restOf at h
  show Ev M_X2_restOf 181 181 _ 0 181 rho σ [(0, x0), (0, x1), (9, 0)] []
  refine ev_iconst dX2_restOf_0 (by decide) ?_
  refine ev_iload_n dX2_restOf_1 rfl ?_
  refine ev_iconst dX2_restOf_2 (by decide) ?_
  refine ev_idiv dX2_restOf_3 h (fun h => ?_)
  refine ev_iadd dX2_restOf_4 ?_
  refine ev_istore_nG dX2_restOf_5 h rfl (by decide) (fun v1 h => ?_)
  show Ev _ _ _ _ 6 _ _ _ [(0, x0), (0, x1), (0, v1)] _
  refine ev_iload_n dX2_restOf_6 rfl ?_
  refine ev_by h (fun cs h => ?_) (fun cs0 h => ?_)
  · refine ev_tswIn (off := 29) (tgt := 36) dX2_restOf_7 (by rw [cs]; decide) (by rw [cs]; decide) (by rw [cs]; rfl) rfl ?_
    refine ev_iload_n dX2_restOf_36 rfl ?_
    obtain rfl := Option.some.inj h
    exact ev_iret dX2_restOf_37 rfl rfl
  refine ev_by h (fun cs h => ?_) (fun cs1 h => ?_)
  · refine ev_tswIn (off := 37) (tgt := 44) dX2_restOf_7 (by rw [cs]; decide) (by rw [cs]; decide) (by rw [cs]; rfl) rfl ?_
    refine ev_iconst dX2_restOf_44 (by decide) ?_
    obtain rfl := Option.some.inj h
    exact ev_iret dX2_restOf_45 rfl rfl
  refine ev_by h (fun cs h => ?_) (fun cs2 h => ?_)
  · refine ev_tswIn (off := 31) (tgt := 38) dX2_restOf_7 (by rw [cs]; decide) (by rw [cs]; decide) (by rw [cs]; rfl) rfl ?_
    refine ev_iconst dX2_restOf_38 (by decide) ?_
    refine ev_iload_n dX2_restOf_39 rfl ?_
    refine ev_imul dX2_restOf_40 ?_
    obtain rfl := Option.some.inj h
    exact ev_iret dX2_restOf_41 rfl rfl
  refine ev_by h (fun cs h => ?_) (fun cs3 h => ?_)
  · refine ev_tswIn (off := 35) (tgt := 42) dX2_restOf_7 (by rw [cs]; decide) (by rw [cs]; decide) (by rw [cs]; rfl) rfl ?_
    refine ev_iconst dX2_restOf_42 (by decide) ?_
    obtain rfl := Option.some.inj h
    exact ev_iret dX2_restOf_43 rfl rfl
  refine ev_tswOut (tgt := 44) dX2_restOf_7 (by omega) rfl ?_
  refine ev_iconst dX2_restOf_44 (by decide) ?_
  obtain rfl := Option.some.inj h
  exact ev_iret dX2_restOf_45 rfl rfl
set_option maxHeartbeats 4000000 in
set_option maxRecDepth 20000 in
theorem c_X0_restFor {σ : Mem} {x0 x1 : Int} (hx0 : isB x0) {q : Int} (h : f_X0_restFor σ x0 x1 = some q) : Ms yX0_restFor M_X0_restFor 181 181 [(2, x0), (0, x1)] rho σ (some (0, q), rho, σ) := by
  refine Ms.of 0 (by decide +kernel) rfl (fun z => absurd z (by decide)) (fun _ _ _ => trivial) rfl rfl ?_
  unfold f_X0_restFor at h
  show Ev M_X0_restFor 181 181 _ 0 181 rho σ [(2, x0), (0, x1)] []
  refine ev_aload_n dX0_restFor_0 rfl (pB hx0).1 ?_
  refine ev_getf (j := 3) (t := 2) (x := (x0 + 4)) dX0_restFor_1 cf_X0 wf_X0_21 (sB hx0) (pB hx0).1 (pB hx0).2 rfl (by decide) (rB3 _ hx0) ?_
  refine ev_iload_n dX0_restFor_4 rfl ?_
  refine ev_iald dX0_restFor_5 (sB3 hx0) (pB3 hx0).1 (pB3 hx0).2 h (fun h => ?_)
  refine ev_aload_n dX0_restFor_6 rfl (pB hx0).1 ?_
  refine ev_getf (j := 4) (t := 2) (x := (x0 + 5)) dX0_restFor_7 cf_X0 wf_X0_24 (sB hx0) (pB hx0).1 (pB hx0).2 rfl (by decide) (rB4 _ hx0) ?_
  refine ev_iload_n dX0_restFor_10 rfl ?_
  refine ev_iald dX0_restFor_11 (sB4 hx0) (pB4 hx0).1 (pB4 hx0).2 h (fun h => ?_)
  obtain ⟨v1, hc2, h⟩ := bind_of h
  refine ev_invS_v (av := [(0, (σ (x0 + 4) x1)), (0, (σ (x0 + 5) x1))]) (st := []) (v := (0, v1)) (τ := σ) dX0_restFor_12 ml_X0_83 mt_X2_restOf rfl ⟨Nat.le_of_ble_eq_true rfl, Nat.le_of_ble_eq_true rfl⟩ (Nat.le_of_ble_eq_true rfl) (c_X2_restOf hc2) ?_
  obtain rfl := Option.some.inj h
  exact ev_iret dX0_restFor_15 rfl rfl
def K_X0_takenInAll_4 (σ : Mem) (x0 : Int) (r : Option V × Mem × Mem) : (Int × Int) ⊕ ((Int)) → Prop := Sum.elim (fun a => Ev M_X0_takenInAll 181 181 r 4 181 rho σ [(2, x0), (0, a.1), (0, a.2)] []) (fun e => Ev M_X0_takenInAll 181 181 r 30 181 rho σ [(9, 0), (0, e), (9, 0)] [])
set_option maxHeartbeats 4000000 in
set_option maxRecDepth 20000 in
theorem b_X0_takenInAll_4 (σ : Mem) (x0 : Int) (hx0 : isB x0) {r : Option V × Mem × Mem} : ∀ a x, f_X0_takenInAll_4B σ x0 a = some x → K_X0_takenInAll_4 σ x0 r x → K_X0_takenInAll_4 σ x0 r (.inl a) := by
  intro a x h K
  obtain ⟨x1, x2⟩ := a
  have h : f_X0_takenInAll_4C σ x0 x1 x2 = some x := h
  unfold f_X0_takenInAll_4C at h
  show Ev M_X0_takenInAll 181 181 r 4 181 rho σ [(2, x0), (0, x1), (0, x2)] []
  refine ev_iload_n dX0_takenInAll_4 rfl ?_
  refine ev_aload_n dX0_takenInAll_5 rfl (pB hx0).1 ?_
  refine ev_getf (j := 9) (t := 0) (x := (σ x0 9)) dX0_takenInAll_6 cf_X0 wf_X0_55 (sB hx0) (pB hx0).1 (pB hx0).2 rfl (by decide) rfl ?_
  refine ev_icmp_ge (tgt := 30) dX0_takenInAll_9 rfl h (fun cb h => ?_) (fun cb h => ?_)
  · obtain rfl := Option.some.inj h
    exact ev_sub (L2 := [(9, 0), (0, x1), (9, 0)]) K ⟨.inl rfl, .inr rfl, .inl rfl, trivial⟩
  refine ev_iload_n dX0_takenInAll_12 rfl ?_
  refine ev_aload_n dX0_takenInAll_13 rfl (pB hx0).1 ?_
  refine ev_getf (j := 6) (t := 2) (x := (x0 + 7)) dX0_takenInAll_14 cf_X0 wf_X0_30 (sB hx0) (pB hx0).1 (pB hx0).2 rfl (by decide) (rB6 _ hx0) ?_
  refine ev_iload_n dX0_takenInAll_17 rfl ?_
  refine ev_iald dX0_takenInAll_18 (sB6 hx0) (pB6 hx0).1 (pB6 hx0).2 h (fun h => ?_)
  obtain ⟨v1, hc2, h⟩ := bind_of h
  refine ev_invS_v (av := [(0, (σ (x0 + 7) x2))]) (st := [(0, x1)]) (v := (0, v1)) (τ := σ) dX0_takenInAll_19 ml_X0_72 mt_J6_bitCount_0f7a4 rfl ⟨Nat.le_of_ble_eq_true rfl, Nat.le_of_ble_eq_true rfl⟩ (Nat.le_of_ble_eq_true rfl) (c_J6_bitCount_0f7a4 hc2) ?_
  refine ev_iadd dX0_takenInAll_22 ?_
  refine ev_istore_nG dX0_takenInAll_23 h rfl (by decide) (fun v3 h => ?_)
  show Ev _ _ _ _ 24 _ _ _ [(2, x0), (0, v3), (0, x2)] _
  refine ev_iincG dX0_takenInAll_24 rfl h rfl (fun v4 h => ?_)
  show Ev _ _ _ _ 27 _ _ _ [(2, x0), (0, v3), (0, v4)] _
  refine ev_goto (tgt := 4) dX0_takenInAll_27 rfl ?_
  obtain rfl := Option.some.inj h
  exact ev_sub (L2 := [(2, x0), (0, v3), (0, v4)]) K ⟨.inr rfl, .inr rfl, .inr rfl, trivial⟩
set_option maxHeartbeats 4000000 in
set_option maxRecDepth 20000 in
theorem e_X0_takenInAll_4 (σ : Mem) (x0 x1 x2 : Int) (hx0 : isB x0) {q : Int} (h : f_X0_takenInAll_4 σ x0 x1 x2 = some q) : Ev M_X0_takenInAll 181 181 (some (0, q), rho, σ) 4 181 rho σ [(2, x0), (0, x1), (0, x2)] [] := by
  unfold f_X0_takenInAll_4 at h
  obtain ⟨e, hl, h⟩ := bind_of h
  refine loop_ev (K := K_X0_takenInAll_4 σ x0 (some (0, q), rho, σ)) (b_X0_takenInAll_4 σ x0 hx0) FU (x1, x2) e hl ?_
  show Ev M_X0_takenInAll 181 181 _ 30 181 rho σ [(9, 0), (0, e), (9, 0)] []
  replace h : some e = some q := h
  refine ev_iload_n dX0_takenInAll_30 rfl ?_
  obtain rfl := Option.some.inj h
  exact ev_iret dX0_takenInAll_31 rfl rfl
set_option maxHeartbeats 4000000 in
set_option maxRecDepth 20000 in
theorem c_X0_takenInAll {σ : Mem} {x0 : Int} (hx0 : isB x0) {q : Int} (h : f_X0_takenInAll σ x0 = some q) : Ms yX0_takenInAll M_X0_takenInAll 181 181 [(2, x0)] rho σ (some (0, q), rho, σ) := by
  refine Ms.of 2 (by decide +kernel) rfl (fun z => absurd z (by decide)) (fun _ _ _ => trivial) rfl rfl ?_
  unfold f_X0_takenInAll at h
  show Ev M_X0_takenInAll 181 181 _ 0 181 rho σ [(2, x0), (9, 0), (9, 0)] []
  refine ev_iconst dX0_takenInAll_0 (by decide) ?_
  refine ev_istore_n dX0_takenInAll_1 rfl (by decide) ?_
  show Ev _ _ _ _ 2 _ _ _ [(2, x0), (0, (0 : Int)), (9, 0)] _
  refine ev_iconst dX0_takenInAll_2 (by decide) ?_
  refine ev_istore_n dX0_takenInAll_3 rfl (by decide) ?_
  show Ev _ _ _ _ 4 _ _ _ [(2, x0), (0, (0 : Int)), (0, (0 : Int))] _
  exact ev_sub (L2 := [(2, x0), (0, (0 : Int)), (0, (0 : Int))]) (e_X0_takenInAll_4 σ x0 (0 : Int) (0 : Int) hx0 h) ⟨.inr rfl, .inr rfl, .inr rfl, trivial⟩
set_option maxHeartbeats 4000000 in
set_option maxRecDepth 20000 in
theorem c_X1_count {σ : Mem}  {q : Int} (h : f_X1_count σ  = some q) : Ms yX1_count M_X1_count 181 181 [(2, (164 : Int))] rho σ (some (0, q), rho, σ) := by
  refine Ms.of 0 (by decide +kernel) rfl (fun z => absurd z (by decide)) (fun _ _ _ => trivial) rfl rfl ?_
  unfold f_X1_count at h
  show Ev M_X1_count 181 181 _ 0 181 rho σ [(2, (164 : Int))] []
  refine ev_aload_n dX1_count_0 rfl (by decide) ?_
  refine ev_getf (j := 6) (t := 0) (x := (σ (164 : Int) 6)) dX1_count_1 cf_X1 wf_X1_30 sp164 (by decide) (by decide) rfl (by decide) rfl ?_
  obtain rfl := Option.some.inj h
  exact ev_iret dX1_count_4 rfl rfl
set_option maxHeartbeats 4000000 in
set_option maxRecDepth 20000 in
theorem c_X1_watchers {σ : Mem}  {q : Int} (h : f_X1_watchers σ  = some q) : Ms yX1_watchers M_X1_watchers 181 181 [(2, (164 : Int))] rho σ (some (0, q), rho, σ) := by
  refine Ms.of 0 (by decide +kernel) rfl (fun z => absurd z (by decide)) (fun _ _ _ => trivial) rfl rfl ?_
  unfold f_X1_watchers at h
  show Ev M_X1_watchers 181 181 _ 0 181 rho σ [(2, (164 : Int))] []
  refine ev_aload_n dX1_watchers_0 rfl (by decide) ?_
  refine ev_getf (j := 7) (t := 0) (x := (σ (164 : Int) 7)) dX1_watchers_1 cf_X1 wf_X1_34 sp164 (by decide) (by decide) rfl (by decide) rfl ?_
  obtain rfl := Option.some.inj h
  exact ev_iret dX1_watchers_4 rfl rfl
set_option maxHeartbeats 4000000 in
set_option maxRecDepth 20000 in
theorem c_X1_atOnce {σ : Mem}  {q : Int} (h : f_X1_atOnce σ  = some q) : Ms yX1_atOnce M_X1_atOnce 181 181 [(2, (164 : Int))] rho σ (some (0, q), rho, σ) := by
  refine Ms.of 0 (by decide +kernel) rfl (fun z => absurd z (by decide)) (fun _ _ _ => trivial) rfl rfl ?_
  unfold f_X1_atOnce at h
  show Ev M_X1_atOnce 181 181 _ 0 181 rho σ [(2, (164 : Int))] []
  refine ev_aload_n dX1_atOnce_0 rfl (by decide) ?_
  refine ev_getf (j := 8) (t := 0) (x := (σ (164 : Int) 8)) dX1_atOnce_1 cf_X1 wf_X1_37 sp164 (by decide) (by decide) rfl (by decide) rfl ?_
  obtain rfl := Option.some.inj h
  exact ev_iret dX1_atOnce_4 rfl rfl
set_option maxHeartbeats 4000000 in
set_option maxRecDepth 20000 in
theorem c_X1_tell {σ : Mem} {x1 x2 : Int}  {q : Int} (h : f_X1_tell σ x1 x2 = some q) : Ms yX1_tell M_X1_tell 181 181 [(2, (164 : Int)), (0, x1), (0, x2)] rho σ (some (0, q), rho, σ) := by
  refine Ms.of 0 (by decide +kernel) rfl (fun z => absurd z (by decide)) (fun _ _ _ => trivial) rfl rfl ?_
  unfold f_X1_tell at h
  show Ev M_X1_tell 181 181 _ 0 181 rho σ [(2, (164 : Int)), (0, x1), (0, x2)] []
  refine ev_iload_n dX1_tell_0 rfl ?_
  refine ev_by h (fun cs h => ?_) (fun cs0 h => ?_)
  · refine ev_tswIn (off := 31) (tgt := 32) dX1_tell_1 (by rw [cs]; decide) (by rw [cs]; decide) (by rw [cs]; rfl) rfl ?_
    refine ev_aload_n dX1_tell_32 rfl (by decide) ?_
    refine ev_getf (j := 0) (t := 2) (x := (165 : Int)) dX1_tell_33 cf_X1 wf_X1_9 sp164 (by decide) (by decide) rfl (by decide) (rp164_0 _) ?_
    refine ev_iload_n dX1_tell_36 rfl ?_
    refine ev_iald dX1_tell_37 sp165 (by decide) (by decide) h (fun h => ?_)
    obtain rfl := Option.some.inj h
    exact ev_iret dX1_tell_38 rfl rfl
  refine ev_by h (fun cs h => ?_) (fun cs1 h => ?_)
  · refine ev_tswIn (off := 38) (tgt := 39) dX1_tell_1 (by rw [cs]; decide) (by rw [cs]; decide) (by rw [cs]; rfl) rfl ?_
    refine ev_aload_n dX1_tell_39 rfl (by decide) ?_
    refine ev_getf (j := 1) (t := 2) (x := (166 : Int)) dX1_tell_40 cf_X1 wf_X1_15 sp164 (by decide) (by decide) rfl (by decide) (rp164_1 _) ?_
    refine ev_iload_n dX1_tell_43 rfl ?_
    refine ev_iald dX1_tell_44 sp166 (by decide) (by decide) h (fun h => ?_)
    obtain rfl := Option.some.inj h
    exact ev_iret dX1_tell_45 rfl rfl
  refine ev_by h (fun cs h => ?_) (fun cs2 h => ?_)
  · refine ev_tswIn (off := 45) (tgt := 46) dX1_tell_1 (by rw [cs]; decide) (by rw [cs]; decide) (by rw [cs]; rfl) rfl ?_
    refine ev_aload_n dX1_tell_46 rfl (by decide) ?_
    refine ev_getf (j := 2) (t := 2) (x := (167 : Int)) dX1_tell_47 cf_X1 wf_X1_18 sp164 (by decide) (by decide) rfl (by decide) (rp164_2 _) ?_
    refine ev_iload_n dX1_tell_50 rfl ?_
    refine ev_iald dX1_tell_51 sp167 (by decide) (by decide) h (fun h => ?_)
    obtain rfl := Option.some.inj h
    exact ev_iret dX1_tell_52 rfl rfl
  refine ev_by h (fun cs h => ?_) (fun cs3 h => ?_)
  · refine ev_tswIn (off := 52) (tgt := 53) dX1_tell_1 (by rw [cs]; decide) (by rw [cs]; decide) (by rw [cs]; rfl) rfl ?_
    refine ev_aload_n dX1_tell_53 rfl (by decide) ?_
    refine ev_getf (j := 3) (t := 2) (x := (168 : Int)) dX1_tell_54 cf_X1 wf_X1_21 sp164 (by decide) (by decide) rfl (by decide) (rp164_3 _) ?_
    refine ev_iload_n dX1_tell_57 rfl ?_
    refine ev_iald dX1_tell_58 sp168 (by decide) (by decide) h (fun h => ?_)
    obtain rfl := Option.some.inj h
    exact ev_iret dX1_tell_59 rfl rfl
  refine ev_tswOut (tgt := 60) dX1_tell_1 (by omega) rfl ?_
  refine ev_aload_n dX1_tell_60 rfl (by decide) ?_
  refine ev_getf (j := 4) (t := 2) (x := (169 : Int)) dX1_tell_61 cf_X1 wf_X1_24 sp164 (by decide) (by decide) rfl (by decide) (rp164_4 _) ?_
  refine ev_iload_n dX1_tell_64 rfl ?_
  refine ev_iald dX1_tell_65 sp169 (by decide) (by decide) h (fun h => ?_)
  obtain rfl := Option.some.inj h
  exact ev_iret dX1_tell_66 rfl rfl
set_option maxHeartbeats 4000000 in
set_option maxRecDepth 20000 in
theorem c_X9_edition {σ : Mem}  {q : Int} (h : f_X9_edition σ  = some q) : Ms yX9_edition M_X9_edition 181 181 [(2, (43 : Int))] rho σ (some (0, q), rho, σ) := by
  refine Ms.of 0 (by decide +kernel) rfl (fun z => absurd z (by decide)) (fun _ _ _ => trivial) rfl rfl ?_
  unfold f_X9_edition at h
  show Ev M_X9_edition 181 181 _ 0 181 rho σ [(2, (43 : Int))] []
  refine ev_aload_n dX9_edition_0 rfl (by decide) ?_
  refine ev_getf (j := 3) (t := 0) (x := (σ (43 : Int) 3)) dX9_edition_1 cf_X9 wf_X9_28 sp43 (by decide) (by decide) rfl (by decide) rfl ?_
  obtain rfl := Option.some.inj h
  exact ev_iret dX9_edition_4 rfl rfl
set_option maxHeartbeats 4000000 in
set_option maxRecDepth 20000 in
theorem c_X8_cameTo {σ : Mem} {x0 x1 : Int} (hx0 : isW x0) {q : Int} (h : f_X8_cameTo σ x0 x1 = some q) : Ms yX8_cameTo M_X8_cameTo 181 181 [(2, x0), (0, x1)] rho σ (some (0, q), rho, σ) := by
  refine Ms.of 0 (by decide +kernel) rfl (fun z => absurd z (by decide)) (fun _ _ _ => trivial) rfl rfl ?_
  unfold f_X8_cameTo at h
  show Ev M_X8_cameTo 181 181 _ 0 181 rho σ [(2, x0), (0, x1)] []
  refine ev_iload_n dX8_cameTo_0 rfl ?_
  refine ev_if_le (tgt := 20) dX8_cameTo_1 rfl h (fun cb h => ?_) (fun cb h => ?_)
  · refine ev_iconst dX8_cameTo_20 (by decide) ?_
    obtain rfl := Option.some.inj h
    exact ev_iret dX8_cameTo_21 rfl rfl
  refine ev_iload_n dX8_cameTo_4 rfl ?_
  refine ev_iconst dX8_cameTo_5 (by decide) ?_
  refine ev_icmp_ge (tgt := 20) dX8_cameTo_6 rfl h (fun cb h => ?_) (fun cb h => ?_)
  · refine ev_iconst dX8_cameTo_20 (by decide) ?_
    obtain rfl := Option.some.inj h
    exact ev_iret dX8_cameTo_21 rfl rfl
  refine ev_aload_n dX8_cameTo_9 rfl (pW hx0).1 ?_
  refine ev_getf (j := 1) (t := 2) (x := (x0 + 2)) dX8_cameTo_10 cf_X8 wf_X8_15 (sW hx0) (pW hx0).1 (pW hx0).2 rfl (by decide) (rW1 _ hx0) ?_
  refine ev_iload_n dX8_cameTo_13 rfl ?_
  refine ev_iconst dX8_cameTo_14 (by decide) ?_
  refine ev_isub dX8_cameTo_15 ?_
  refine ev_iald dX8_cameTo_16 (sW1 hx0) (pW1 hx0).1 (pW1 hx0).2 h (fun h => ?_)
  refine ev_goto (tgt := 21) dX8_cameTo_17 rfl ?_
  obtain rfl := Option.some.inj h
  exact ev_iret dX8_cameTo_21 rfl rfl
set_option maxHeartbeats 4000000 in
set_option maxRecDepth 20000 in
theorem c_X8_open {σ : Mem} {x0 x1 x2 x3 : Int} (hx0 : isW x0) {q : Mem} (h : f_X8_open σ x0 x1 x2 x3 = some q) : Ms yX8_open M_X8_open 181 181 [(2, x0), (0, x1), (0, x2), (0, x3)] rho σ (none, rho, q) := by
  refine Ms.of 0 (by decide +kernel) rfl (fun z => absurd z (by decide)) (fun _ _ _ => trivial) rfl rfl ?_
  unfold f_X8_open at h
  show Ev M_X8_open 181 181 _ 0 181 rho σ [(2, x0), (0, x1), (0, x2), (0, x3)] []
  refine ev_aload_n dX8_open_0 rfl (pW hx0).1 ?_
  refine ev_getf (j := 0) (t := 2) (x := (x0 + 1)) dX8_open_1 cf_X8 wf_X8_9 (sW hx0) (pW hx0).1 (pW hx0).2 rfl (by decide) (rW0 _ hx0) ?_
  refine ev_iload_n dX8_open_4 rfl ?_
  refine ev_iconst dX8_open_5 (by decide) ?_
  refine ev_zastG dX8_open_6 (sW0 hx0) (pW0 hx0).1 (pW0 hx0).2 h (fun σ1 h => ?_)
  refine ev_aload_n dX8_open_7 rfl (pW hx0).1 ?_
  refine ev_getf (j := 1) (t := 2) (x := (x0 + 2)) dX8_open_8 cf_X8 wf_X8_15 (sW hx0) (pW hx0).1 (pW hx0).2 rfl (by decide) (rW1 _ hx0) ?_
  refine ev_iload_n dX8_open_11 rfl ?_
  refine ev_iconst dX8_open_12 (by decide) ?_
  refine ev_iastG dX8_open_13 (sW1 hx0) (pW1 hx0).1 (pW1 hx0).2 h (fun σ2 h => ?_)
  refine ev_aload_n dX8_open_14 rfl (pW hx0).1 ?_
  show Ev _ _ _ _ 15 _ _ _ _ _
  refine ev_getf (j := 2) (t := 2) (x := (x0 + 3)) dX8_open_15 cf_X8 wf_X8_19 (sW hx0) (pW hx0).1 (pW hx0).2 rfl (by decide) (rW2 _ hx0) ?_
  refine ev_iload_n dX8_open_18 rfl ?_
  refine ev_iload_n dX8_open_19 rfl ?_
  refine ev_iastG dX8_open_20 (sW2 hx0) (pW2 hx0).1 (pW2 hx0).2 h (fun σ3 h => ?_)
  refine ev_aload_n dX8_open_21 rfl (pW hx0).1 ?_
  refine ev_getf (j := 3) (t := 2) (x := (x0 + 4)) dX8_open_22 cf_X8 wf_X8_22 (sW hx0) (pW hx0).1 (pW hx0).2 rfl (by decide) (rW3 _ hx0) ?_
  refine ev_iload_n dX8_open_25 rfl ?_
  refine ev_iload_n dX8_open_26 rfl ?_
  refine ev_iastG dX8_open_27 (sW3 hx0) (pW3 hx0).1 (pW3 hx0).2 h (fun σ4 h => ?_)
  refine ev_aload_n dX8_open_28 rfl (pW hx0).1 ?_
  refine ev_getf (j := 4) (t := 2) (x := (x0 + 5)) dX8_open_29 cf_X8 wf_X8_25 (sW hx0) (pW hx0).1 (pW hx0).2 rfl (by decide) (rW4 _ hx0) ?_
  refine ev_iload_n dX8_open_32 rfl ?_
  show Ev _ _ _ _ 33 _ _ _ _ _
  refine ev_iconst dX8_open_33 (by decide) ?_
  refine ev_iastG dX8_open_34 (sW4 hx0) (pW4 hx0).1 (pW4 hx0).2 h (fun σ5 h => ?_)
  refine ev_aload_n dX8_open_35 rfl (pW hx0).1 ?_
  refine ev_getf (j := 5) (t := 2) (x := (x0 + 6)) dX8_open_36 cf_X8 wf_X8_28 (sW hx0) (pW hx0).1 (pW hx0).2 rfl (by decide) (rW5 _ hx0) ?_
  refine ev_iload_n dX8_open_39 rfl ?_
  refine ev_lconst (x := (0 : Int)) dX8_open_40 (by decide) (by decide) ?_
  refine ev_lastG dX8_open_41 (sW5 hx0) (pW5 hx0).1 (pW5 hx0).2 h (fun σ6 h => ?_)
  obtain rfl := Option.some.inj h
  exact ev_vret dX8_open_42 rfl rfl
set_option maxHeartbeats 4000000 in
set_option maxRecDepth 20000 in
theorem c_X10_span {σ : Mem} {x0 x1 : Int}  {q : Int} (h : f_X10_span σ x0 x1 = some q) : Ms yX10_span M_X10_span 181 181 [(0, x0), (0, x1)] rho σ (some (1, q), rho, σ) := by
  refine Ms.of 0 (by decide +kernel) rfl (fun z => absurd z (by decide)) (fun _ _ _ => trivial) rfl rfl ?_
  unfold f_X10_span at h
  show Ev M_X10_span 181 181 _ 0 181 rho σ [(0, x0), (0, x1)] []
  refine ev_lconst (x := (1 : Int)) dX10_span_0 (by decide) (by decide) ?_
  refine ev_iload_n dX10_span_1 rfl ?_
  refine ev_lshl dX10_span_2 ?_
  refine ev_lconst (x := (1 : Int)) dX10_span_3 (by decide) (by decide) ?_
  refine ev_lsub dX10_span_4 ?_
  refine ev_lconst (x := (1 : Int)) dX10_span_5 (by decide) (by decide) ?_
  refine ev_iload_n dX10_span_6 rfl ?_
  refine ev_lshl dX10_span_7 ?_
  refine ev_lconst (x := (1 : Int)) dX10_span_8 (by decide) (by decide) ?_
  refine ev_lsub dX10_span_9 ?_
  refine ev_ldc2 (x := (-1 : Int)) dX10_span_10 wc_X10_419 (by decide) (by decide) ?_
  show Ev _ _ _ _ 13 _ _ _ _ _
  refine ev_lxor dX10_span_13 ?_
  refine ev_land dX10_span_14 ?_
  obtain rfl := Option.some.inj h
  exact ev_lret dX10_span_15 rfl rfl
def K_X3_gather_44 (x1 x2 x3 : Int) (r : Option V × Mem × Mem) : (Int × Mem) ⊕ ((Mem)) → Prop := Sum.elim (fun a => Ev M_X3_gather 181 181 r 44 181 rho a.2 [(2, (36 : Int)), (2, x1), (0, x2), (0, x3), (9, 0), (9, 0), (0, a.1)] []) (fun e => Ev M_X3_gather 181 181 r 147 181 rho e [(9, 0), (9, 0), (9, 0), (9, 0), (9, 0), (9, 0), (9, 0)] [])
set_option maxHeartbeats 4000000 in
set_option maxRecDepth 20000 in
theorem e_X3_gather_141 (σ : Mem) (x1 x2 x3 x6 : Int) (hx1 : isB x1) {q : ((Int × Mem) ⊕ ((Mem)))} (h : f_X3_gather_141 σ x1 x2 x3 x6 = some q) {r : Option V × Mem × Mem} (K : K_X3_gather_44 x1 x2 x3 r q) : Ev M_X3_gather 181 181 r 141 181 rho σ [(2, (36 : Int)), (2, x1), (0, x2), (0, x3), (9, 0), (9, 0), (0, x6)] [] := by
  unfold f_X3_gather_141 at h
  refine ev_iincG dX3_gather_141 rfl h rfl (fun v19 h => ?_)
  show Ev _ _ _ _ 144 _ _ _ [(2, (36 : Int)), (2, x1), (0, x2), (0, x3), (9, 0), (9, 0), (0, v19)] _
  refine ev_goto (tgt := 44) dX3_gather_144 rfl ?_
  obtain rfl := Option.some.inj h
  exact ev_sub (L2 := [(2, (36 : Int)), (2, x1), (0, x2), (0, x3), (9, 0), (9, 0), (0, v19)]) K ⟨.inr rfl, .inr rfl, .inr rfl, .inr rfl, .inl rfl, .inl rfl, .inr rfl, trivial⟩
set_option maxHeartbeats 4000000 in
set_option maxRecDepth 20000 in
theorem b_X3_gather_44 (x1 x2 x3 : Int) (hx1 : isB x1) {r : Option V × Mem × Mem} : ∀ a x, f_X3_gather_44B x1 x2 x3 a = some x → K_X3_gather_44 x1 x2 x3 r x → K_X3_gather_44 x1 x2 x3 r (.inl a) := by
  intro a x h K
  obtain ⟨x6, σ⟩ := a
  have h : f_X3_gather_44C x1 x2 x3 x6 σ = some x := h
  unfold f_X3_gather_44C at h
  show Ev M_X3_gather 181 181 r 44 181 rho σ [(2, (36 : Int)), (2, x1), (0, x2), (0, x3), (9, 0), (9, 0), (0, x6)] []
  refine ev_iload dX3_gather_44 rfl ?_
  refine ev_aload_n dX3_gather_46 rfl (pB hx1).1 ?_
  refine ev_getf (j := 8) (t := 0) (x := (σ x1 8)) dX3_gather_47 cf_X0 wf_X3_69 (sB hx1) (pB hx1).1 (pB hx1).2 rfl (by decide) rfl ?_
  refine ev_icmp_ge (tgt := 147) dX3_gather_50 rfl h (fun cb h => ?_) (fun cb h => ?_)
  · obtain rfl := Option.some.inj h
    exact ev_sub (L2 := [(9, 0), (9, 0), (9, 0), (9, 0), (9, 0), (9, 0), (9, 0)]) K ⟨.inl rfl, .inl rfl, .inl rfl, .inl rfl, .inl rfl, .inl rfl, .inl rfl, trivial⟩
  refine ev_iload_n dX3_gather_53 rfl ?_
  refine ev_iload dX3_gather_54 rfl ?_
  obtain ⟨v10, hc11, h⟩ := bind_of h
  refine ev_invSN_v (av := [(0, x3), (0, x6)]) (st := []) (v := (0, v10)) (τ := σ) dX3_gather_56 ml_X3_72 mt_X10_hasBit rfl ⟨Nat.le_of_ble_eq_true rfl, Nat.le_of_ble_eq_true rfl⟩ (Nat.le_of_ble_eq_true rfl) (c_X10_hasBit hc11) ?_
  refine ev_if_eq (tgt := 141) dX3_gather_59 rfl h (fun cb h => ?_) (fun cb h => ?_)
  · exact ev_sub (L2 := [(2, (36 : Int)), (2, x1), (0, x2), (0, x3), (9, 0), (9, 0), (0, x6)]) (e_X3_gather_141 σ x1 x2 x3 x6 hx1 h K) ⟨.inr rfl, .inr rfl, .inr rfl, .inr rfl, .inl rfl, .inl rfl, .inr rfl, trivial⟩
  refine ev_aload_n dX3_gather_62 rfl (by decide) ?_
  refine ev_getf (j := 6) (t := 0) (x := (σ (36 : Int) 6)) dX3_gather_63 cf_X3 wf_X3_30 sp36 (by decide) (by decide) rfl (by decide) rfl ?_
  refine ev_iconst dX3_gather_66 (by decide) ?_
  refine ev_icmp_ge (tgt := 141) dX3_gather_67 rfl h (fun cb h => ?_) (fun cb h => ?_)
  · exact ev_sub (L2 := [(2, (36 : Int)), (2, x1), (0, x2), (0, x3), (9, 0), (9, 0), (0, x6)]) (e_X3_gather_141 σ x1 x2 x3 x6 hx1 h K) ⟨.inr rfl, .inr rfl, .inr rfl, .inr rfl, .inl rfl, .inl rfl, .inr rfl, trivial⟩
  refine ev_aload_n dX3_gather_70 rfl (by decide) ?_
  refine ev_getf (j := 0) (t := 2) (x := (37 : Int)) dX3_gather_71 cf_X3 wf_X3_9 sp36 (by decide) (by decide) rfl (by decide) (rp36_0 _) ?_
  refine ev_aload_n dX3_gather_74 rfl (by decide) ?_
  refine ev_getf (j := 6) (t := 0) (x := (σ (36 : Int) 6)) dX3_gather_75 cf_X3 wf_X3_30 sp36 (by decide) (by decide) rfl (by decide) rfl ?_
  refine ev_iload dX3_gather_78 rfl ?_
  refine ev_iastG dX3_gather_80 sp37 (by decide) (by decide) h (fun σ12 h => ?_)
  refine ev_aload_n dX3_gather_81 rfl (by decide) ?_
  refine ev_getf (j := 1) (t := 2) (x := (38 : Int)) dX3_gather_82 cf_X3 wf_X3_15 sp36 (by decide) (by decide) rfl (by decide) (rp36_1 _) ?_
  refine ev_aload_n dX3_gather_85 rfl (by decide) ?_
  refine ev_getf (j := 6) (t := 0) (x := (σ12 (36 : Int) 6)) dX3_gather_86 cf_X3 wf_X3_30 sp36 (by decide) (by decide) rfl (by decide) rfl ?_
  refine ev_aload_n dX3_gather_89 rfl (pB hx1).1 ?_
  show Ev _ _ _ _ 90 _ _ _ _ _
  refine ev_getf (j := 1) (t := 2) (x := (x1 + 2)) dX3_gather_90 cf_X0 wf_X3_76 (sB hx1) (pB hx1).1 (pB hx1).2 rfl (by decide) (rB1 _ hx1) ?_
  refine ev_iload dX3_gather_93 rfl ?_
  refine ev_iald dX3_gather_95 (sB1 hx1) (pB1 hx1).1 (pB1 hx1).2 h (fun h => ?_)
  refine ev_iastG dX3_gather_96 sp38 (by decide) (by decide) h (fun σ13 h => ?_)
  refine ev_aload_n dX3_gather_97 rfl (by decide) ?_
  refine ev_getf (j := 2) (t := 2) (x := (39 : Int)) dX3_gather_98 cf_X3 wf_X3_18 sp36 (by decide) (by decide) rfl (by decide) (rp36_2 _) ?_
  refine ev_aload_n dX3_gather_101 rfl (by decide) ?_
  refine ev_getf (j := 6) (t := 0) (x := (σ13 (36 : Int) 6)) dX3_gather_102 cf_X3 wf_X3_30 sp36 (by decide) (by decide) rfl (by decide) rfl ?_
  refine ev_aload_n dX3_gather_105 rfl (pB hx1).1 ?_
  refine ev_iload_n dX3_gather_106 rfl ?_
  refine ev_iload dX3_gather_107 rfl ?_
  obtain ⟨v14, hc15, h⟩ := bind_of h
  refine ev_invV_v (k := x1) (av := [(0, x2), (0, x6)]) (st := [(0, (σ13 (36 : Int) 6)), (2, (39 : Int))]) (v := (0, v14)) (τ := σ13) dX3_gather_109 ml_X3_79 mv_X0_timeFor (T := TX0) (ci := 0) rfl (sB hx1) (pB hx1).1 (pB hx1).2 rfl ⟨Nat.le_of_ble_eq_true rfl, Nat.le_of_ble_eq_true rfl⟩ (Nat.le_of_ble_eq_true rfl) (c_X0_timeFor hx1 hc15) ?_
  show Ev _ _ _ _ 112 _ _ _ _ _
  refine ev_iastG dX3_gather_112 sp39 (by decide) (by decide) h (fun σ16 h => ?_)
  refine ev_aload_n dX3_gather_113 rfl (by decide) ?_
  refine ev_dup dX3_gather_114 (show (2 : Nat) ≠ 1 by decide) ?_
  refine ev_getf (j := 9) (t := 0) (x := (σ16 (36 : Int) 9)) dX3_gather_115 cf_X3 wf_X3_59 sp36 (by decide) (by decide) rfl (by decide) rfl ?_
  refine ev_aload_n dX3_gather_118 rfl (by decide) ?_
  refine ev_getf (j := 2) (t := 2) (x := (39 : Int)) dX3_gather_119 cf_X3 wf_X3_18 sp36 (by decide) (by decide) rfl (by decide) (rp36_2 _) ?_
  refine ev_aload_n dX3_gather_122 rfl (by decide) ?_
  refine ev_getf (j := 6) (t := 0) (x := (σ16 (36 : Int) 6)) dX3_gather_123 cf_X3 wf_X3_30 sp36 (by decide) (by decide) rfl (by decide) rfl ?_
  refine ev_iald dX3_gather_126 sp39 (by decide) (by decide) h (fun h => ?_)
  refine ev_isub dX3_gather_127 ?_
  refine ev_putfG (j := 9) (t := 0) dX3_gather_128 cf_X3 wf_X3_59 sp36 (by decide) (by decide) rfl (by decide) (by decide) rfl (fun z => absurd z (by decide +kernel)) h (fun σ17 h => ?_)
  refine ev_aload_n dX3_gather_131 rfl (by decide) ?_
  show Ev _ _ _ _ 132 _ _ _ _ _
  refine ev_dup dX3_gather_132 (show (2 : Nat) ≠ 1 by decide) ?_
  refine ev_getf (j := 6) (t := 0) (x := (σ17 (36 : Int) 6)) dX3_gather_133 cf_X3 wf_X3_30 sp36 (by decide) (by decide) rfl (by decide) rfl ?_
  refine ev_iconst dX3_gather_136 (by decide) ?_
  refine ev_iadd dX3_gather_137 ?_
  refine ev_putfG (j := 6) (t := 0) dX3_gather_138 cf_X3 wf_X3_30 sp36 (by decide) (by decide) rfl (by decide) (by decide) rfl (fun z => absurd z (by decide +kernel)) h (fun σ18 h => ?_)
  exact ev_sub (L2 := [(2, (36 : Int)), (2, x1), (0, x2), (0, x3), (9, 0), (9, 0), (0, x6)]) (e_X3_gather_141 σ18 x1 x2 x3 x6 hx1 h K) ⟨.inr rfl, .inr rfl, .inr rfl, .inr rfl, .inl rfl, .inl rfl, .inr rfl, trivial⟩
set_option maxHeartbeats 4000000 in
set_option maxRecDepth 20000 in
theorem e_X3_gather_44 (σ : Mem) (x1 x2 x3 x6 : Int) (hx1 : isB x1) {q : Mem} (h : f_X3_gather_44 σ x1 x2 x3 x6 = some q) : Ev M_X3_gather 181 181 (none, rho, q) 44 181 rho σ [(2, (36 : Int)), (2, x1), (0, x2), (0, x3), (9, 0), (9, 0), (0, x6)] [] := by
  unfold f_X3_gather_44 at h
  obtain ⟨e, hl, h⟩ := bind_of h
  refine loop_ev (K := K_X3_gather_44 x1 x2 x3 (none, rho, q)) (b_X3_gather_44 x1 x2 x3 hx1) FU (x6, σ) e hl ?_
  show Ev M_X3_gather 181 181 _ 147 181 rho e [(9, 0), (9, 0), (9, 0), (9, 0), (9, 0), (9, 0), (9, 0)] []
  replace h : some e = some q := h
  obtain rfl := Option.some.inj h
  exact ev_vret dX3_gather_147 rfl rfl
set_option maxHeartbeats 4000000 in
set_option maxRecDepth 20000 in
theorem c_X3_gather {σ : Mem} {x1 x2 x3 x4 x5 : Int} (hx1 : isB x1) {q : Mem} (h : f_X3_gather σ x1 x2 x3 x4 x5 = some q) : Ms yX3_gather M_X3_gather 181 181 [(2, (36 : Int)), (2, x1), (0, x2), (0, x3), (0, x4), (0, x5)] rho σ (none, rho, q) := by
  refine Ms.of 1 (by decide +kernel) rfl (fun z => absurd z (by decide)) (fun _ _ _ => trivial) rfl rfl ?_
  unfold f_X3_gather at h
  show Ev M_X3_gather 181 181 _ 0 181 rho σ [(2, (36 : Int)), (2, x1), (0, x2), (0, x3), (0, x4), (0, x5), (9, 0)] []
  refine ev_aload_n dX3_gather_0 rfl (by decide) ?_
  refine ev_iconst dX3_gather_1 (by decide) ?_
  refine ev_putfG (j := 6) (t := 0) dX3_gather_2 cf_X3 wf_X3_30 sp36 (by decide) (by decide) rfl (by decide) (by decide) rfl (fun z => absurd z (by decide +kernel)) h (fun σ1 h => ?_)
  refine ev_aload_n dX3_gather_5 rfl (by decide) ?_
  refine ev_aload_n dX3_gather_6 rfl (pB hx1).1 ?_
  refine ev_iload_n dX3_gather_7 rfl ?_
  obtain ⟨v2, hc3, h⟩ := bind_of h
  refine ev_invV_v (k := x1) (av := [(0, x2)]) (st := [(2, (36 : Int))]) (v := (0, v2)) (τ := σ1) dX3_gather_8 ml_X3_44 mv_X0_restFor (T := TX0) (ci := 0) rfl (sB hx1) (pB hx1).1 (pB hx1).2 rfl ⟨Nat.le_of_ble_eq_true rfl, Nat.le_of_ble_eq_true rfl⟩ (Nat.le_of_ble_eq_true rfl) (c_X0_restFor hx1 hc3) ?_
  refine ev_putfG (j := 7) (t := 0) dX3_gather_11 cf_X3 wf_X3_50 sp36 (by decide) (by decide) rfl (by decide) (by decide) rfl (fun z => absurd z (by decide +kernel)) h (fun σ4 h => ?_)
  refine ev_aload_n dX3_gather_14 rfl (by decide) ?_
  refine ev_iload dX3_gather_15 rfl ?_
  refine ev_putfG (j := 8) (t := 0) dX3_gather_17 cf_X3 wf_X3_53 sp36 (by decide) (by decide) rfl (by decide) (by decide) rfl (fun z => absurd z (by decide +kernel)) h (fun σ5 h => ?_)
  show Ev _ _ _ _ 20 _ _ _ _ _
  refine ev_aload_n dX3_gather_20 rfl (by decide) ?_
  refine ev_aload_n dX3_gather_21 rfl (pB hx1).1 ?_
  refine ev_getf (j := 11) (t := 0) (x := (σ5 x1 11)) dX3_gather_22 cf_X0 wf_X3_56 (sB hx1) (pB hx1).1 (pB hx1).2 rfl (by decide) rfl ?_
  refine ev_iload dX3_gather_25 rfl ?_
  refine ev_isub dX3_gather_27 ?_
  refine ev_putfG (j := 9) (t := 0) dX3_gather_28 cf_X3 wf_X3_59 sp36 (by decide) (by decide) rfl (by decide) (by decide) rfl (fun z => absurd z (by decide +kernel)) h (fun σ6 h => ?_)
  refine ev_aload_n dX3_gather_31 rfl (by decide) ?_
  refine ev_iconst dX3_gather_32 (by decide) ?_
  refine ev_iload dX3_gather_33 rfl ?_
  obtain ⟨v7, hc8, h⟩ := bind_of h
  refine ev_invSN_v (av := [(0, (0 : Int)), (0, x5)]) (st := [(2, (36 : Int))]) (v := (1, v7)) (τ := σ6) dX3_gather_35 ml_X3_62 mt_X10_span rfl ⟨Nat.le_of_ble_eq_true rfl, Nat.le_of_ble_eq_true rfl⟩ (Nat.le_of_ble_eq_true rfl) (c_X10_span hc8) ?_
  refine ev_putfG (j := 10) (t := 1) dX3_gather_38 cf_X3 wf_X3_66 sp36 (by decide) (by decide) rfl (by decide) (by decide) rfl (fun z => absurd z (by decide +kernel)) h (fun σ9 h => ?_)
  refine ev_iconst dX3_gather_41 (by decide) ?_
  show Ev _ _ _ _ 42 _ _ _ _ _
  refine ev_istore dX3_gather_42 rfl (by decide) ?_
  show Ev _ _ _ _ 44 _ _ _ [(2, (36 : Int)), (2, x1), (0, x2), (0, x3), (0, x4), (0, x5), (0, (0 : Int))] _
  exact ev_sub (L2 := [(2, (36 : Int)), (2, x1), (0, x2), (0, x3), (9, 0), (9, 0), (0, (0 : Int))]) (e_X3_gather_44 σ9 x1 x2 x3 (0 : Int) hx1 h) ⟨.inr rfl, .inr rfl, .inr rfl, .inr rfl, .inl rfl, .inl rfl, .inr rfl, trivial⟩
def K_X3_walk_18 (x1 : Int) (r : Option V × Mem × Mem) : (Int × Int × Int × Int × Mem) ⊕ ((Mem) ⊕ (Int × Int × Mem)) → Prop := Sum.elim (fun a => Ev M_X3_walk 181 181 r 18 181 rho a.2.2.2.2 [(2, (36 : Int)), (2, x1), (9, 0), (9, 0), (1, a.1), (9, 0), (1, a.2.1), (9, 0), (0, a.2.2.1), (0, a.2.2.2.1), (9, 0), (9, 0), (9, 0)] []) (Sum.elim (fun e => Ev M_X3_walk 181 181 r 66 181 rho e [(9, 0), (9, 0), (9, 0), (9, 0), (9, 0), (9, 0), (9, 0), (9, 0), (9, 0), (9, 0), (9, 0), (9, 0), (9, 0)] []) (fun e => Ev M_X3_walk 181 181 r 121 181 rho e.2.2 [(2, (36 : Int)), (9, 0), (9, 0), (9, 0), (1, e.1), (9, 0), (1, e.2.1), (9, 0), (9, 0), (9, 0), (9, 0), (9, 0), (9, 0)] []))
set_option maxHeartbeats 4000000 in
set_option maxRecDepth 20000 in
theorem e_X3_walk_121 (σ : Mem) (x4 x6 : Int)  {q : (Int × Mem)} (h : f_X3_walk_121 σ x4 x6 = some q) : Ev M_X3_walk 181 181 (some (0, q.1), rho, q.2) 121 181 rho σ [(2, (36 : Int)), (9, 0), (9, 0), (9, 0), (1, x4), (9, 0), (1, x6), (9, 0), (9, 0), (9, 0), (9, 0), (9, 0), (9, 0)] [] := by
  unfold f_X3_walk_121 at h
  refine ev_aload_n dX3_walk_121 rfl (by decide) ?_
  refine ev_lload dX3_walk_122 rfl ?_
  refine ev_lload dX3_walk_124 rfl ?_
  refine ev_ldc2 (x := (-1 : Int)) dX3_walk_126 wc_X3_105 (by decide) (by decide) ?_
  refine ev_lxor dX3_walk_129 ?_
  refine ev_land dX3_walk_130 ?_
  refine ev_putfG (j := 11) (t := 1) dX3_walk_131 cf_X3 wf_X3_40 sp36 (by decide) (by decide) rfl (by decide) (by decide) rfl (fun z => absurd z (by decide +kernel)) h (fun σ15 h => ?_)
  refine ev_iconst dX3_walk_134 (by decide) ?_
  obtain rfl := Option.some.inj h
  exact ev_zret dX3_walk_135 rfl (chk_pos (.inr rfl))
set_option maxHeartbeats 4000000 in
set_option maxRecDepth 20000 in
theorem b_X3_walk_18 (x1 : Int) (hx1 : isA x1) {r : Option V × Mem × Mem} : ∀ a x, f_X3_walk_18B x1 a = some x → K_X3_walk_18 x1 r x → K_X3_walk_18 x1 r (.inl a) := by
  intro a x h K
  obtain ⟨x4, x6, x8, x9, σ⟩ := a
  have h : f_X3_walk_18C x1 x4 x6 x8 x9 σ = some x := h
  unfold f_X3_walk_18C at h
  show Ev M_X3_walk 181 181 r 18 181 rho σ [(2, (36 : Int)), (2, x1), (9, 0), (9, 0), (1, x4), (9, 0), (1, x6), (9, 0), (0, x8), (0, x9), (9, 0), (9, 0), (9, 0)] []
  refine ev_iload dX3_walk_18 rfl ?_
  refine ev_aload_n dX3_walk_20 rfl (by decide) ?_
  refine ev_getf (j := 6) (t := 0) (x := (σ (36 : Int) 6)) dX3_walk_21 cf_X3 wf_X3_30 sp36 (by decide) (by decide) rfl (by decide) rfl ?_
  refine ev_icmp_ge (tgt := 121) dX3_walk_24 rfl h (fun cb h => ?_) (fun cb h => ?_)
  · obtain rfl := Option.some.inj h
    exact ev_sub (L2 := [(2, (36 : Int)), (9, 0), (9, 0), (9, 0), (1, x4), (9, 0), (1, x6), (9, 0), (9, 0), (9, 0), (9, 0), (9, 0), (9, 0)]) K ⟨.inr rfl, .inl rfl, .inl rfl, .inl rfl, .inr rfl, .inl rfl, .inr rfl, .inl rfl, .inl rfl, .inl rfl, .inl rfl, .inl rfl, .inl rfl, trivial⟩
  refine ev_aload_n dX3_walk_27 rfl (pA hx1).1 ?_
  refine ev_iload dX3_walk_28 rfl ?_
  refine ev_iald dX3_walk_30 (sA hx1) (pA hx1).1 (pA hx1).2 h (fun h => ?_)
  refine ev_istoreG dX3_walk_31 h rfl (by decide) (fun v3 h => ?_)
  show Ev _ _ _ _ 33 _ _ _ [(2, (36 : Int)), (2, x1), (9, 0), (9, 0), (1, x4), (9, 0), (1, x6), (9, 0), (0, x8), (0, x9), (0, v3), (9, 0), (9, 0)] _
  refine ev_aload_n dX3_walk_33 rfl (by decide) ?_
  refine ev_getf (j := 1) (t := 2) (x := (38 : Int)) dX3_walk_34 cf_X3 wf_X3_15 sp36 (by decide) (by decide) rfl (by decide) (rp36_1 _) ?_
  refine ev_iload dX3_walk_37 rfl ?_
  refine ev_iald dX3_walk_39 sp38 (by decide) (by decide) h (fun h => ?_)
  refine ev_iload dX3_walk_40 rfl ?_
  refine ev_mx dX3_walk_42 wa_X3_100 wm_max (by decide) (Nat.le_of_ble_eq_true rfl) ?_
  refine ev_istoreG dX3_walk_45 h rfl (by decide) (fun v4 h => ?_)
  show Ev _ _ _ _ 47 _ _ _ [(2, (36 : Int)), (2, x1), (9, 0), (9, 0), (1, x4), (9, 0), (1, x6), (9, 0), (0, x8), (0, x9), (0, v3), (0, v4), (9, 0)] _
  show Ev _ _ _ _ 47 _ _ _ _ _
  refine ev_iload dX3_walk_47 rfl ?_
  refine ev_aload_n dX3_walk_49 rfl (by decide) ?_
  refine ev_getf (j := 2) (t := 2) (x := (39 : Int)) dX3_walk_50 cf_X3 wf_X3_18 sp36 (by decide) (by decide) rfl (by decide) (rp36_2 _) ?_
  refine ev_iload dX3_walk_53 rfl ?_
  refine ev_iald dX3_walk_55 sp39 (by decide) (by decide) h (fun h => ?_)
  refine ev_iadd dX3_walk_56 ?_
  refine ev_istoreG dX3_walk_57 h rfl (by decide) (fun v5 h => ?_)
  show Ev _ _ _ _ 59 _ _ _ [(2, (36 : Int)), (2, x1), (9, 0), (9, 0), (1, x4), (9, 0), (1, x6), (9, 0), (0, x8), (0, x9), (0, v3), (0, v4), (0, v5)] _
  refine ev_iload dX3_walk_59 rfl ?_
  refine ev_bipush dX3_walk_61 (by decide) (by decide) ?_
  refine ev_icmp_le (tgt := 68) dX3_walk_63 rfl h (fun cb h => ?_) (fun cb h => ?_)
  · refine ev_aload_n dX3_walk_68 rfl (by decide) ?_
    refine ev_getf (j := 5) (t := 2) (x := (42 : Int)) dX3_walk_69 cf_X3 wf_X3_27 sp36 (by decide) (by decide) rfl (by decide) (rp36_5 _) ?_
    refine ev_iload dX3_walk_72 rfl ?_
    refine ev_iload dX3_walk_74 rfl ?_
    refine ev_iastG dX3_walk_76 sp42 (by decide) (by decide) h (fun σ6 h => ?_)
    refine ev_lload dX3_walk_77 rfl ?_
    refine ev_iload dX3_walk_79 rfl ?_
    refine ev_iload dX3_walk_81 rfl ?_
    obtain ⟨v7, hc8, h⟩ := bind_of h
    refine ev_invSN_v (av := [(0, v4), (0, v5)]) (st := [(1, x4)]) (v := (1, v7)) (τ := σ6) dX3_walk_83 ml_X3_62 mt_X10_span rfl ⟨Nat.le_of_ble_eq_true rfl, Nat.le_of_ble_eq_true rfl⟩ (Nat.le_of_ble_eq_true rfl) (c_X10_span hc8) ?_
    refine ev_lor dX3_walk_86 ?_
    refine ev_lstoreG dX3_walk_87 h rfl (by decide) (fun v9 h => ?_)
    show Ev _ _ _ _ 89 _ _ _ [(2, (36 : Int)), (2, x1), (9, 0), (9, 0), (1, v9), (9, 0), (1, x6), (9, 0), (0, x8), (0, x9), (0, v3), (0, v4), (0, v5)] _
    show Ev _ _ _ _ 89 _ _ _ _ _
    refine ev_lload dX3_walk_89 rfl ?_
    refine ev_aload_n dX3_walk_91 rfl (by decide) ?_
    refine ev_getf (j := 1) (t := 2) (x := (38 : Int)) dX3_walk_92 cf_X3 wf_X3_15 sp36 (by decide) (by decide) rfl (by decide) (rp36_1 _) ?_
    refine ev_iload dX3_walk_95 rfl ?_
    refine ev_iald dX3_walk_97 sp38 (by decide) (by decide) h (fun h => ?_)
    refine ev_iload dX3_walk_98 rfl ?_
    obtain ⟨v10, hc11, h⟩ := bind_of h
    refine ev_invSN_v (av := [(0, (σ6 (38 : Int) v3)), (0, v4)]) (st := [(1, x6)]) (v := (1, v10)) (τ := σ6) dX3_walk_100 ml_X3_62 mt_X10_span rfl ⟨Nat.le_of_ble_eq_true rfl, Nat.le_of_ble_eq_true rfl⟩ (Nat.le_of_ble_eq_true rfl) (c_X10_span hc11) ?_
    refine ev_lor dX3_walk_103 ?_
    refine ev_lstoreG dX3_walk_104 h rfl (by decide) (fun v12 h => ?_)
    show Ev _ _ _ _ 106 _ _ _ [(2, (36 : Int)), (2, x1), (9, 0), (9, 0), (1, v9), (9, 0), (1, v12), (9, 0), (0, x8), (0, x9), (0, v3), (0, v4), (0, v5)] _
    refine ev_iload dX3_walk_106 rfl ?_
    refine ev_aload_n dX3_walk_108 rfl (by decide) ?_
    refine ev_getf (j := 7) (t := 0) (x := (σ6 (36 : Int) 7)) dX3_walk_109 cf_X3 wf_X3_50 sp36 (by decide) (by decide) rfl (by decide) rfl ?_
    show Ev _ _ _ _ 112 _ _ _ _ _
    refine ev_iadd dX3_walk_112 ?_
    refine ev_istoreG dX3_walk_113 h rfl (by decide) (fun v13 h => ?_)
    show Ev _ _ _ _ 115 _ _ _ [(2, (36 : Int)), (2, x1), (9, 0), (9, 0), (1, v9), (9, 0), (1, v12), (9, 0), (0, v13), (0, x9), (0, v3), (0, v4), (0, v5)] _
    refine ev_iincG dX3_walk_115 rfl h rfl (fun v14 h => ?_)
    show Ev _ _ _ _ 118 _ _ _ [(2, (36 : Int)), (2, x1), (9, 0), (9, 0), (1, v9), (9, 0), (1, v12), (9, 0), (0, v13), (0, v14), (0, v3), (0, v4), (0, v5)] _
    refine ev_goto (tgt := 18) dX3_walk_118 rfl ?_
    obtain rfl := Option.some.inj h
    exact ev_sub (L2 := [(2, (36 : Int)), (2, x1), (9, 0), (9, 0), (1, v9), (9, 0), (1, v12), (9, 0), (0, v13), (0, v14), (9, 0), (9, 0), (9, 0)]) K ⟨.inr rfl, .inr rfl, .inl rfl, .inl rfl, .inr rfl, .inl rfl, .inr rfl, .inl rfl, .inr rfl, .inr rfl, .inl rfl, .inl rfl, .inl rfl, trivial⟩
  obtain rfl := Option.some.inj h
  exact ev_sub (L2 := [(9, 0), (9, 0), (9, 0), (9, 0), (9, 0), (9, 0), (9, 0), (9, 0), (9, 0), (9, 0), (9, 0), (9, 0), (9, 0)]) K ⟨.inl rfl, .inl rfl, .inl rfl, .inl rfl, .inl rfl, .inl rfl, .inl rfl, .inl rfl, .inl rfl, .inl rfl, .inl rfl, .inl rfl, .inl rfl, trivial⟩
set_option maxHeartbeats 4000000 in
set_option maxRecDepth 20000 in
theorem e_X3_walk_18 (σ : Mem) (x1 x4 x6 x8 x9 : Int) (hx1 : isA x1) {q : (Int × Mem)} (h : f_X3_walk_18 σ x1 x4 x6 x8 x9 = some q) : Ev M_X3_walk 181 181 (some (0, q.1), rho, q.2) 18 181 rho σ [(2, (36 : Int)), (2, x1), (9, 0), (9, 0), (1, x4), (9, 0), (1, x6), (9, 0), (0, x8), (0, x9), (9, 0), (9, 0), (9, 0)] [] := by
  unfold f_X3_walk_18 at h
  obtain ⟨e, hl, h⟩ := bind_of h
  refine loop_ev (K := K_X3_walk_18 x1 (some (0, q.1), rho, q.2)) (b_X3_walk_18 x1 hx1) FU (x4, x6, x8, x9, σ) e hl ?_
  rcases e with e | e
  · show Ev M_X3_walk 181 181 _ 66 181 rho e [(9, 0), (9, 0), (9, 0), (9, 0), (9, 0), (9, 0), (9, 0), (9, 0), (9, 0), (9, 0), (9, 0), (9, 0), (9, 0)] []
    replace h : some ((0 : Int), e) = some q := h
    refine ev_iconst dX3_walk_66 (by decide) ?_
    obtain rfl := Option.some.inj h
    exact ev_zret dX3_walk_67 rfl (chk_pos (.inl rfl))
  · show Ev M_X3_walk 181 181 _ 121 181 rho e.2.2 [(2, (36 : Int)), (9, 0), (9, 0), (9, 0), (1, e.1), (9, 0), (1, e.2.1), (9, 0), (9, 0), (9, 0), (9, 0), (9, 0), (9, 0)] []
    replace h : f_X3_walk_121 e.2.2 e.1 e.2.1 = some q := h
    exact ev_sub (L2 := [(2, (36 : Int)), (9, 0), (9, 0), (9, 0), (1, e.1), (9, 0), (1, e.2.1), (9, 0), (9, 0), (9, 0), (9, 0), (9, 0), (9, 0)]) (e_X3_walk_121 e.2.2 e.1 e.2.1 h) ⟨.inr rfl, .inl rfl, .inl rfl, .inl rfl, .inr rfl, .inl rfl, .inr rfl, .inl rfl, .inl rfl, .inl rfl, .inl rfl, .inl rfl, .inl rfl, trivial⟩
set_option maxHeartbeats 4000000 in
set_option maxRecDepth 20000 in
theorem c_X3_walk {σ : Mem} {x1 x2 : Int} (hx1 : isA x1) {q : (Int × Mem)} (h : f_X3_walk σ x1 x2 = some q) : Ms yX3_walk M_X3_walk 181 181 [(2, (36 : Int)), (2, x1), (1, x2)] rho σ (some (0, q.1), rho, q.2) := by
  refine Ms.of 9 (by decide +kernel) rfl (fun z => absurd z (by decide)) (fun _ _ _ => trivial) rfl rfl ?_
  unfold f_X3_walk at h
  show Ev M_X3_walk 181 181 _ 0 181 rho σ [(2, (36 : Int)), (2, x1), (1, x2), (9, 0), (9, 0), (9, 0), (9, 0), (9, 0), (9, 0), (9, 0), (9, 0), (9, 0), (9, 0)] []
  refine ev_aload_n dX3_walk_0 rfl (by decide) ?_
  refine ev_getf (j := 10) (t := 1) (x := (σ (36 : Int) 10)) dX3_walk_1 cf_X3 wf_X3_66 sp36 (by decide) (by decide) rfl (by decide) rfl ?_
  refine ev_lstoreG dX3_walk_4 h rfl (by decide) (fun v1 h => ?_)
  show Ev _ _ _ _ 6 _ _ _ [(2, (36 : Int)), (2, x1), (1, x2), (9, 0), (1, v1), (9, 0), (9, 0), (9, 0), (9, 0), (9, 0), (9, 0), (9, 0), (9, 0)] _
  refine ev_lload_n dX3_walk_6 rfl ?_
  refine ev_lstore dX3_walk_7 rfl (by decide) ?_
  show Ev _ _ _ _ 9 _ _ _ [(2, (36 : Int)), (2, x1), (1, x2), (9, 0), (1, v1), (9, 0), (1, x2), (9, 0), (9, 0), (9, 0), (9, 0), (9, 0), (9, 0)] _
  refine ev_aload_n dX3_walk_9 rfl (by decide) ?_
  refine ev_getf (j := 8) (t := 0) (x := (σ (36 : Int) 8)) dX3_walk_10 cf_X3 wf_X3_53 sp36 (by decide) (by decide) rfl (by decide) rfl ?_
  refine ev_istoreG dX3_walk_13 h rfl (by decide) (fun v2 h => ?_)
  show Ev _ _ _ _ 15 _ _ _ [(2, (36 : Int)), (2, x1), (1, x2), (9, 0), (1, v1), (9, 0), (1, x2), (9, 0), (0, v2), (9, 0), (9, 0), (9, 0), (9, 0)] _
  refine ev_iconst dX3_walk_15 (by decide) ?_
  refine ev_istore dX3_walk_16 rfl (by decide) ?_
  show Ev _ _ _ _ 18 _ _ _ [(2, (36 : Int)), (2, x1), (1, x2), (9, 0), (1, v1), (9, 0), (1, x2), (9, 0), (0, v2), (0, (0 : Int)), (9, 0), (9, 0), (9, 0)] _
  exact ev_sub (L2 := [(2, (36 : Int)), (2, x1), (9, 0), (9, 0), (1, v1), (9, 0), (1, x2), (9, 0), (0, v2), (0, (0 : Int)), (9, 0), (9, 0), (9, 0)]) (e_X3_walk_18 σ x1 v1 x2 v2 (0 : Int) hx1 h) ⟨.inr rfl, .inr rfl, .inl rfl, .inl rfl, .inr rfl, .inl rfl, .inr rfl, .inl rfl, .inr rfl, .inr rfl, .inl rfl, .inl rfl, .inl rfl, trivial⟩
set_option maxHeartbeats 4000000 in
set_option maxRecDepth 20000 in
theorem c_J13_bitCount_95d88 {σ : Mem} {x0 : Int}  {q : Int} (h : f_J13_bitCount_95d88 σ x0 = some q) : Ms yJ13_bitCount_95d88 M_J13_bitCount_95d88 181 181 [(1, x0)] rho σ (some (0, q), rho, σ) := by
  refine Ms.of 0 (by decide +kernel) rfl (fun z => absurd z (by decide)) (fun _ _ _ => trivial) rfl rfl ?_
  unfold f_J13_bitCount_95d88 at h
  show Ev M_J13_bitCount_95d88 181 181 _ 0 181 rho σ [(1, x0), (9, 0)] []
  refine ev_lload_n dJ13_bitCount_95d88_0 rfl ?_
  refine ev_lload_n dJ13_bitCount_95d88_1 rfl ?_
  refine ev_iconst dJ13_bitCount_95d88_2 (by decide) ?_
  refine ev_lushr dJ13_bitCount_95d88_3 ?_
  refine ev_ldc2 (x := (6148914691236517205 : Int)) dJ13_bitCount_95d88_4 wc_J13_314 (by decide) (by decide) ?_
  refine ev_land dJ13_bitCount_95d88_7 ?_
  refine ev_lsub dJ13_bitCount_95d88_8 ?_
  refine ev_lstore_nG dJ13_bitCount_95d88_9 h rfl (by decide) (fun v1 h => ?_)
  show Ev _ _ _ _ 10 _ _ _ [(1, v1), (9, 0)] _
  refine ev_lload_n dJ13_bitCount_95d88_10 rfl ?_
  refine ev_ldc2 (x := (3689348814741910323 : Int)) dJ13_bitCount_95d88_11 wc_J13_316 (by decide) (by decide) ?_
  refine ev_land dJ13_bitCount_95d88_14 ?_
  show Ev _ _ _ _ 15 _ _ _ _ _
  refine ev_lload_n dJ13_bitCount_95d88_15 rfl ?_
  refine ev_iconst dJ13_bitCount_95d88_16 (by decide) ?_
  refine ev_lushr dJ13_bitCount_95d88_17 ?_
  refine ev_ldc2 (x := (3689348814741910323 : Int)) dJ13_bitCount_95d88_18 wc_J13_316 (by decide) (by decide) ?_
  refine ev_land dJ13_bitCount_95d88_21 ?_
  refine ev_ladd dJ13_bitCount_95d88_22 ?_
  refine ev_lstore_nG dJ13_bitCount_95d88_23 h rfl (by decide) (fun v2 h => ?_)
  show Ev _ _ _ _ 24 _ _ _ [(1, v2), (9, 0)] _
  refine ev_lload_n dJ13_bitCount_95d88_24 rfl ?_
  refine ev_lload_n dJ13_bitCount_95d88_25 rfl ?_
  refine ev_iconst dJ13_bitCount_95d88_26 (by decide) ?_
  refine ev_lushr dJ13_bitCount_95d88_27 ?_
  refine ev_ladd dJ13_bitCount_95d88_28 ?_
  show Ev _ _ _ _ 29 _ _ _ _ _
  refine ev_ldc2 (x := (1085102592571150095 : Int)) dJ13_bitCount_95d88_29 wc_J13_318 (by decide) (by decide) ?_
  refine ev_land dJ13_bitCount_95d88_32 ?_
  refine ev_lstore_nG dJ13_bitCount_95d88_33 h rfl (by decide) (fun v3 h => ?_)
  show Ev _ _ _ _ 34 _ _ _ [(1, v3), (9, 0)] _
  refine ev_lload_n dJ13_bitCount_95d88_34 rfl ?_
  refine ev_lload_n dJ13_bitCount_95d88_35 rfl ?_
  refine ev_bipush dJ13_bitCount_95d88_36 (by decide) (by decide) ?_
  refine ev_lushr dJ13_bitCount_95d88_38 ?_
  refine ev_ladd dJ13_bitCount_95d88_39 ?_
  refine ev_lstore_nG dJ13_bitCount_95d88_40 h rfl (by decide) (fun v4 h => ?_)
  show Ev _ _ _ _ 41 _ _ _ [(1, v4), (9, 0)] _
  refine ev_lload_n dJ13_bitCount_95d88_41 rfl ?_
  refine ev_lload_n dJ13_bitCount_95d88_42 rfl ?_
  refine ev_bipush dJ13_bitCount_95d88_43 (by decide) (by decide) ?_
  show Ev _ _ _ _ 45 _ _ _ _ _
  refine ev_lushr dJ13_bitCount_95d88_45 ?_
  refine ev_ladd dJ13_bitCount_95d88_46 ?_
  refine ev_lstore_nG dJ13_bitCount_95d88_47 h rfl (by decide) (fun v5 h => ?_)
  show Ev _ _ _ _ 48 _ _ _ [(1, v5), (9, 0)] _
  refine ev_lload_n dJ13_bitCount_95d88_48 rfl ?_
  refine ev_lload_n dJ13_bitCount_95d88_49 rfl ?_
  refine ev_bipush dJ13_bitCount_95d88_50 (by decide) (by decide) ?_
  refine ev_lushr dJ13_bitCount_95d88_52 ?_
  refine ev_ladd dJ13_bitCount_95d88_53 ?_
  refine ev_lstore_nG dJ13_bitCount_95d88_54 h rfl (by decide) (fun v6 h => ?_)
  show Ev _ _ _ _ 55 _ _ _ [(1, v6), (9, 0)] _
  refine ev_lload_n dJ13_bitCount_95d88_55 rfl ?_
  refine ev_l2i dJ13_bitCount_95d88_56 ?_
  refine ev_bipush dJ13_bitCount_95d88_57 (by decide) (by decide) ?_
  show Ev _ _ _ _ 59 _ _ _ _ _
  refine ev_iand dJ13_bitCount_95d88_59 ?_
  obtain rfl := Option.some.inj h
  exact ev_iret dJ13_bitCount_95d88_60 rfl rfl
set_option maxHeartbeats 4000000 in
set_option maxRecDepth 20000 in
theorem e_X3_join_44 (σ : Mem) (s1 s0 : Int)  {q : Int} (h : f_X3_join_44 σ s1 s0 = some q) : Ev M_X3_join 181 181 (some (0, q), rho, σ) 44 181 rho σ [(9, 0), (9, 0), (9, 0), (9, 0)] [(0, s1), (0, s0)] := by
  unfold f_X3_join_44 at h
  refine ev_iadd dX3_join_44 ?_
  obtain rfl := Option.some.inj h
  exact ev_iret dX3_join_45 rfl rfl
set_option maxHeartbeats 4000000 in
set_option maxRecDepth 20000 in
theorem c_X3_join {σ : Mem} {x0 x1 x2 x3 : Int}  {q : Int} (h : f_X3_join σ x0 x1 x2 x3 = some q) : Ms yX3_join M_X3_join 181 181 [(0, x0), (0, x1), (0, x2), (0, x3)] rho σ (some (0, q), rho, σ) := by
  refine Ms.of 0 (by decide +kernel) rfl (fun z => absurd z (by decide)) (fun _ _ _ => trivial) rfl rfl ?_
  unfold f_X3_join at h
  show Ev M_X3_join 181 181 _ 0 181 rho σ [(0, x0), (0, x1), (0, x2), (0, x3)] []
  refine ev_iload_n dX3_join_0 rfl ?_
  refine ev_by h (fun cs h => ?_) (fun cs0 h => ?_)
  · refine ev_tswIn (off := 27) (tgt := 28) dX3_join_1 (by rw [cs]; decide) (by rw [cs]; decide) (by rw [cs]; rfl) rfl ?_
    refine ev_iload_n dX3_join_28 rfl ?_
    obtain rfl := Option.some.inj h
    exact ev_iret dX3_join_29 rfl rfl
  refine ev_by h (fun cs h => ?_) (fun cs1 h => ?_)
  · refine ev_tswIn (off := 29) (tgt := 30) dX3_join_1 (by rw [cs]; decide) (by rw [cs]; decide) (by rw [cs]; rfl) rfl ?_
    refine ev_iload_n dX3_join_30 rfl ?_
    refine ev_iload_n dX3_join_31 rfl ?_
    refine ev_iadd dX3_join_32 ?_
    obtain rfl := Option.some.inj h
    exact ev_iret dX3_join_33 rfl rfl
  refine ev_by h (fun cs h => ?_) (fun cs2 h => ?_)
  · refine ev_tswIn (off := 33) (tgt := 34) dX3_join_1 (by rw [cs]; decide) (by rw [cs]; decide) (by rw [cs]; rfl) rfl ?_
    refine ev_iload_n dX3_join_34 rfl ?_
    refine ev_iload_n dX3_join_35 rfl ?_
    refine ev_if_le (tgt := 43) dX3_join_36 rfl h (fun cb h => ?_) (fun cb h => ?_)
    · refine ev_iconst dX3_join_43 (by decide) ?_
      exact ev_sub (L2 := [(9, 0), (9, 0), (9, 0), (9, 0)]) (e_X3_join_44 σ (0 : Int) x1 h) ⟨.inl rfl, .inl rfl, .inl rfl, .inl rfl, trivial⟩
    refine ev_iconst dX3_join_39 (by decide) ?_
    refine ev_goto (tgt := 44) dX3_join_40 rfl ?_
    exact ev_sub (L2 := [(9, 0), (9, 0), (9, 0), (9, 0)]) (e_X3_join_44 σ (1 : Int) x1 h) ⟨.inl rfl, .inl rfl, .inl rfl, .inl rfl, trivial⟩
  refine ev_tswOut (tgt := 46) dX3_join_1 (by omega) rfl ?_
  refine ev_iload_n dX3_join_46 rfl ?_
  refine ev_iload_n dX3_join_47 rfl ?_
  refine ev_icmp_le (tgt := 55) dX3_join_48 rfl h (fun cb h => ?_) (fun cb h => ?_)
  · refine ev_iload_n dX3_join_55 rfl ?_
    obtain rfl := Option.some.inj h
    exact ev_iret dX3_join_56 rfl rfl
  refine ev_iload_n dX3_join_51 rfl ?_
  refine ev_goto (tgt := 56) dX3_join_52 rfl ?_
  obtain rfl := Option.some.inj h
  exact ev_iret dX3_join_56 rfl rfl
def K_X3_measured_16 (σ : Mem) (x1 : Int) (r : Option V × Mem × Mem) : (Int × Int) ⊕ ((Int)) → Prop := Sum.elim (fun a => Ev M_X3_measured 181 181 r 16 181 rho σ [(2, (36 : Int)), (0, x1), (0, a.1), (0, a.2), (9, 0)] []) (fun e => Ev M_X3_measured 181 181 r 76 181 rho σ [(9, 0), (9, 0), (0, e), (9, 0), (9, 0)] [])
set_option maxHeartbeats 4000000 in
set_option maxRecDepth 20000 in
theorem b_X3_measured_16 (σ : Mem) (x1 : Int)  {r : Option V × Mem × Mem} : ∀ a x, f_X3_measured_16B σ x1 a = some x → K_X3_measured_16 σ x1 r x → K_X3_measured_16 σ x1 r (.inl a) := by
  intro a x h K
  obtain ⟨x2, x3⟩ := a
  have h : f_X3_measured_16C σ x1 x2 x3 = some x := h
  unfold f_X3_measured_16C at h
  show Ev M_X3_measured 181 181 r 16 181 rho σ [(2, (36 : Int)), (0, x1), (0, x2), (0, x3), (9, 0)] []
  refine ev_iload_n dX3_measured_16 rfl ?_
  refine ev_aload_n dX3_measured_17 rfl (by decide) ?_
  refine ev_getf (j := 6) (t := 0) (x := (σ (36 : Int) 6)) dX3_measured_18 cf_X3 wf_X3_30 sp36 (by decide) (by decide) rfl (by decide) rfl ?_
  refine ev_icmp_ge (tgt := 76) dX3_measured_21 rfl h (fun cb h => ?_) (fun cb h => ?_)
  · obtain rfl := Option.some.inj h
    exact ev_sub (L2 := [(9, 0), (9, 0), (0, x2), (9, 0), (9, 0)]) K ⟨.inl rfl, .inl rfl, .inr rfl, .inl rfl, .inl rfl, trivial⟩
  refine ev_aload_n dX3_measured_24 rfl (by decide) ?_
  refine ev_getf (j := 5) (t := 2) (x := (42 : Int)) dX3_measured_25 cf_X3 wf_X3_27 sp36 (by decide) (by decide) rfl (by decide) (rp36_5 _) ?_
  refine ev_iload_n dX3_measured_28 rfl ?_
  refine ev_iald dX3_measured_29 sp42 (by decide) (by decide) h (fun h => ?_)
  refine ev_aload_n dX3_measured_30 rfl (by decide) ?_
  refine ev_getf (j := 1) (t := 2) (x := (38 : Int)) dX3_measured_31 cf_X3 wf_X3_15 sp36 (by decide) (by decide) rfl (by decide) (rp36_1 _) ?_
  refine ev_aload_n dX3_measured_34 rfl (by decide) ?_
  refine ev_getf (j := 3) (t := 2) (x := (40 : Int)) dX3_measured_35 cf_X3 wf_X3_21 sp36 (by decide) (by decide) rfl (by decide) (rp36_3 _) ?_
  refine ev_iload_n dX3_measured_38 rfl ?_
  refine ev_iald dX3_measured_39 sp40 (by decide) (by decide) h (fun h => ?_)
  refine ev_iald dX3_measured_40 sp38 (by decide) (by decide) h (fun h => ?_)
  show Ev _ _ _ _ 41 _ _ _ _ _
  refine ev_isub dX3_measured_41 ?_
  refine ev_istoreG dX3_measured_42 h rfl (by decide) (fun v3 h => ?_)
  show Ev _ _ _ _ 44 _ _ _ [(2, (36 : Int)), (0, x1), (0, x2), (0, x3), (0, v3)] _
  refine ev_iload_n dX3_measured_44 rfl ?_
  refine ev_iload_n dX3_measured_45 rfl ?_
  refine ev_iload dX3_measured_46 rfl ?_
  refine ev_aload_n dX3_measured_48 rfl (by decide) ?_
  refine ev_getf (j := 5) (t := 2) (x := (42 : Int)) dX3_measured_49 cf_X3 wf_X3_27 sp36 (by decide) (by decide) rfl (by decide) (rp36_5 _) ?_
  refine ev_iload_n dX3_measured_52 rfl ?_
  refine ev_iald dX3_measured_53 sp42 (by decide) (by decide) h (fun h => ?_)
  refine ev_aload_n dX3_measured_54 rfl (by decide) ?_
  refine ev_getf (j := 2) (t := 2) (x := (39 : Int)) dX3_measured_55 cf_X3 wf_X3_18 sp36 (by decide) (by decide) rfl (by decide) (rp36_2 _) ?_
  refine ev_aload_n dX3_measured_58 rfl (by decide) ?_
  show Ev _ _ _ _ 59 _ _ _ _ _
  refine ev_getf (j := 3) (t := 2) (x := (40 : Int)) dX3_measured_59 cf_X3 wf_X3_21 sp36 (by decide) (by decide) rfl (by decide) (rp36_3 _) ?_
  refine ev_iload_n dX3_measured_62 rfl ?_
  refine ev_iald dX3_measured_63 sp40 (by decide) (by decide) h (fun h => ?_)
  refine ev_iald dX3_measured_64 sp39 (by decide) (by decide) h (fun h => ?_)
  refine ev_iadd dX3_measured_65 ?_
  obtain ⟨v4, hc5, h⟩ := bind_of h
  refine ev_invS_v (av := [(0, x1), (0, x2), (0, v3), (0, (jadd (σ (42 : Int) x3) (σ (39 : Int) (σ (40 : Int) x3))))]) (st := []) (v := (0, v4)) (τ := σ) dX3_measured_66 ml_X3_113 mt_X3_join rfl ⟨Nat.le_of_ble_eq_true rfl, Nat.le_of_ble_eq_true rfl⟩ (Nat.le_of_ble_eq_true rfl) (c_X3_join hc5) ?_
  refine ev_istore_n dX3_measured_69 rfl (by decide) ?_
  show Ev _ _ _ _ 70 _ _ _ [(2, (36 : Int)), (0, x1), (0, v4), (0, x3), (0, v3)] _
  refine ev_iincG dX3_measured_70 rfl h rfl (fun v6 h => ?_)
  show Ev _ _ _ _ 73 _ _ _ [(2, (36 : Int)), (0, x1), (0, v4), (0, v6), (0, v3)] _
  refine ev_goto (tgt := 16) dX3_measured_73 rfl ?_
  obtain rfl := Option.some.inj h
  exact ev_sub (L2 := [(2, (36 : Int)), (0, x1), (0, v4), (0, v6), (9, 0)]) K ⟨.inr rfl, .inr rfl, .inr rfl, .inr rfl, .inl rfl, trivial⟩
set_option maxHeartbeats 4000000 in
set_option maxRecDepth 20000 in
theorem e_X3_measured_16 (σ : Mem) (x1 x2 x3 : Int)  {q : Int} (h : f_X3_measured_16 σ x1 x2 x3 = some q) : Ev M_X3_measured 181 181 (some (0, q), rho, σ) 16 181 rho σ [(2, (36 : Int)), (0, x1), (0, x2), (0, x3), (9, 0)] [] := by
  unfold f_X3_measured_16 at h
  obtain ⟨e, hl, h⟩ := bind_of h
  refine loop_ev (K := K_X3_measured_16 σ x1 (some (0, q), rho, σ)) (b_X3_measured_16 σ x1) FU (x2, x3) e hl ?_
  show Ev M_X3_measured 181 181 _ 76 181 rho σ [(9, 0), (9, 0), (0, e), (9, 0), (9, 0)] []
  replace h : some e = some q := h
  refine ev_iload_n dX3_measured_76 rfl ?_
  obtain rfl := Option.some.inj h
  exact ev_iret dX3_measured_77 rfl rfl
set_option maxHeartbeats 4000000 in
set_option maxRecDepth 20000 in
theorem c_X3_measured {σ : Mem} {x1 : Int}  {q : Int} (h : f_X3_measured σ x1 = some q) : Ms yX3_measured M_X3_measured 181 181 [(2, (36 : Int)), (0, x1)] rho σ (some (0, q), rho, σ) := by
  refine Ms.of 3 (by decide +kernel) rfl (fun z => absurd z (by decide)) (fun _ _ _ => trivial) rfl rfl ?_
  unfold f_X3_measured at h
  show Ev M_X3_measured 181 181 _ 0 181 rho σ [(2, (36 : Int)), (0, x1), (9, 0), (9, 0), (9, 0)] []
  refine ev_iload_n dX3_measured_0 rfl ?_
  refine ev_if_ne (tgt := 12) dX3_measured_1 rfl h (fun cb h => ?_) (fun cb h => ?_)
  · refine ev_iconst dX3_measured_12 (by decide) ?_
    refine ev_istore_n dX3_measured_13 rfl (by decide) ?_
    show Ev _ _ _ _ 14 _ _ _ [(2, (36 : Int)), (0, x1), (0, (0 : Int)), (9, 0), (9, 0)] _
    refine ev_iconst dX3_measured_14 (by decide) ?_
    refine ev_istore_n dX3_measured_15 rfl (by decide) ?_
    show Ev _ _ _ _ 16 _ _ _ [(2, (36 : Int)), (0, x1), (0, (0 : Int)), (0, (0 : Int)), (9, 0)] _
    exact ev_sub (L2 := [(2, (36 : Int)), (0, x1), (0, (0 : Int)), (0, (0 : Int)), (9, 0)]) (e_X3_measured_16 σ x1 (0 : Int) (0 : Int) h) ⟨.inr rfl, .inr rfl, .inr rfl, .inr rfl, .inl rfl, trivial⟩
  refine ev_aload_n dX3_measured_4 rfl (by decide) ?_
  refine ev_getf (j := 11) (t := 1) (x := (σ (36 : Int) 11)) dX3_measured_5 cf_X3 wf_X3_40 sp36 (by decide) (by decide) rfl (by decide) rfl ?_
  obtain ⟨v1, hc2, h⟩ := bind_of h
  refine ev_invS_v (av := [(1, (σ (36 : Int) 11))]) (st := []) (v := (0, v1)) (τ := σ) dX3_measured_8 ml_X3_107 mt_J13_bitCount_95d88 rfl ⟨Nat.le_of_ble_eq_true rfl, Nat.le_of_ble_eq_true rfl⟩ (Nat.le_of_ble_eq_true rfl) (c_J13_bitCount_95d88 hc2) ?_
  obtain rfl := Option.some.inj h
  exact ev_iret dX3_measured_11 rfl rfl
set_option maxHeartbeats 4000000 in
set_option maxRecDepth 20000 in
theorem c_X3_swap {σ : Mem} {x1 x2 : Int}  {q : Mem} (h : f_X3_swap σ x1 x2 = some q) : Ms yX3_swap M_X3_swap 181 181 [(2, (36 : Int)), (0, x1), (0, x2)] rho σ (none, rho, q) := by
  refine Ms.of 1 (by decide +kernel) rfl (fun z => absurd z (by decide)) (fun _ _ _ => trivial) rfl rfl ?_
  unfold f_X3_swap at h
  show Ev M_X3_swap 181 181 _ 0 181 rho σ [(2, (36 : Int)), (0, x1), (0, x2), (9, 0)] []
  refine ev_aload_n dX3_swap_0 rfl (by decide) ?_
  refine ev_getf (j := 3) (t := 2) (x := (40 : Int)) dX3_swap_1 cf_X3 wf_X3_21 sp36 (by decide) (by decide) rfl (by decide) (rp36_3 _) ?_
  refine ev_iload_n dX3_swap_4 rfl ?_
  refine ev_iald dX3_swap_5 sp40 (by decide) (by decide) h (fun h => ?_)
  refine ev_istore_nG dX3_swap_6 h rfl (by decide) (fun v1 h => ?_)
  show Ev _ _ _ _ 7 _ _ _ [(2, (36 : Int)), (0, x1), (0, x2), (0, v1)] _
  refine ev_aload_n dX3_swap_7 rfl (by decide) ?_
  refine ev_getf (j := 3) (t := 2) (x := (40 : Int)) dX3_swap_8 cf_X3 wf_X3_21 sp36 (by decide) (by decide) rfl (by decide) (rp36_3 _) ?_
  refine ev_iload_n dX3_swap_11 rfl ?_
  refine ev_aload_n dX3_swap_12 rfl (by decide) ?_
  refine ev_getf (j := 3) (t := 2) (x := (40 : Int)) dX3_swap_13 cf_X3 wf_X3_21 sp36 (by decide) (by decide) rfl (by decide) (rp36_3 _) ?_
  refine ev_iload_n dX3_swap_16 rfl ?_
  show Ev _ _ _ _ 17 _ _ _ _ _
  refine ev_iald dX3_swap_17 sp40 (by decide) (by decide) h (fun h => ?_)
  refine ev_iastG dX3_swap_18 sp40 (by decide) (by decide) h (fun σ2 h => ?_)
  refine ev_aload_n dX3_swap_19 rfl (by decide) ?_
  refine ev_getf (j := 3) (t := 2) (x := (40 : Int)) dX3_swap_20 cf_X3 wf_X3_21 sp36 (by decide) (by decide) rfl (by decide) (rp36_3 _) ?_
  refine ev_iload_n dX3_swap_23 rfl ?_
  refine ev_iload_n dX3_swap_24 rfl ?_
  refine ev_iastG dX3_swap_25 sp40 (by decide) (by decide) h (fun σ3 h => ?_)
  obtain rfl := Option.some.inj h
  exact ev_vret dX3_swap_26 rfl rfl
def K_X3_nextRow_93 (r : Option V × Mem × Mem) : (Int × Int × Mem) ⊕ ((Mem)) → Prop := Sum.elim (fun a => Ev M_X3_nextRow 181 181 r 93 181 rho a.2.2 [(2, (36 : Int)), (9, 0), (9, 0), (0, a.1), (0, a.2.1)] []) (fun e => Ev M_X3_nextRow 181 181 r 115 181 rho e [(9, 0), (9, 0), (9, 0), (9, 0), (9, 0)] [])
def K_X3_nextRow_47 (σ : Mem) (x1 : Int) (r : Option V × Mem × Mem) : (Int) ⊕ ((Int)) → Prop := Sum.elim (fun a => Ev M_X3_nextRow 181 181 r 47 181 rho σ [(2, (36 : Int)), (0, x1), (0, a), (9, 0), (9, 0)] []) (fun e => Ev M_X3_nextRow 181 181 r 75 181 rho σ [(2, (36 : Int)), (0, x1), (0, e), (9, 0), (9, 0)] [])
def K_X3_nextRow_7 (σ : Mem) (r : Option V × Mem × Mem) : (Int) ⊕ ((Int)) → Prop := Sum.elim (fun a => Ev M_X3_nextRow 181 181 r 7 181 rho σ [(2, (36 : Int)), (0, a), (9, 0), (9, 0), (9, 0)] []) (fun e => Ev M_X3_nextRow 181 181 r 34 181 rho σ [(2, (36 : Int)), (0, e), (9, 0), (9, 0), (9, 0)] [])
set_option maxHeartbeats 4000000 in
set_option maxRecDepth 20000 in
theorem b_X3_nextRow_93  {r : Option V × Mem × Mem} : ∀ a x, f_X3_nextRow_93B  a = some x → K_X3_nextRow_93  r x → K_X3_nextRow_93  r (.inl a) := by
  intro a x h K
  obtain ⟨x3, x4, σ⟩ := a
  have h : f_X3_nextRow_93C  x3 x4 σ = some x := h
  unfold f_X3_nextRow_93C at h
  show Ev M_X3_nextRow 181 181 r 93 181 rho σ [(2, (36 : Int)), (9, 0), (9, 0), (0, x3), (0, x4)] []
  refine ev_iload_n dX3_nextRow_93 rfl ?_
  refine ev_iload dX3_nextRow_94 rfl ?_
  refine ev_icmp_ge (tgt := 115) dX3_nextRow_96 rfl h (fun cb h => ?_) (fun cb h => ?_)
  · obtain rfl := Option.some.inj h
    exact ev_sub (L2 := [(9, 0), (9, 0), (9, 0), (9, 0), (9, 0)]) K ⟨.inl rfl, .inl rfl, .inl rfl, .inl rfl, .inl rfl, trivial⟩
  refine ev_aload_n dX3_nextRow_99 rfl (by decide) ?_
  refine ev_iload_n dX3_nextRow_100 rfl ?_
  refine ev_iload dX3_nextRow_101 rfl ?_
  obtain ⟨σ9, hc10, h⟩ := bind_of h
  refine ev_invV_n (k := (36 : Int)) (av := [(0, x3), (0, x4)]) (st := []) (τ := σ9) dX3_nextRow_103 ml_X3_117 mv_X3_swap (T := TX3) (ci := 2) rfl sp36 (by decide) (by decide) rfl ⟨Nat.le_of_ble_eq_true rfl, Nat.le_of_ble_eq_true rfl⟩ (Nat.le_of_ble_eq_true rfl) (c_X3_swap hc10) ?_
  refine ev_iincG dX3_nextRow_106 rfl h rfl (fun v11 h => ?_)
  show Ev _ _ _ _ 109 _ _ _ [(2, (36 : Int)), (9, 0), (9, 0), (0, v11), (0, x4)] _
  refine ev_iincG dX3_nextRow_109 rfl h rfl (fun v12 h => ?_)
  show Ev _ _ _ _ 112 _ _ _ [(2, (36 : Int)), (9, 0), (9, 0), (0, v11), (0, v12)] _
  refine ev_goto (tgt := 93) dX3_nextRow_112 rfl ?_
  obtain rfl := Option.some.inj h
  exact ev_sub (L2 := [(2, (36 : Int)), (9, 0), (9, 0), (0, v11), (0, v12)]) K ⟨.inr rfl, .inl rfl, .inl rfl, .inr rfl, .inr rfl, trivial⟩
set_option maxHeartbeats 4000000 in
set_option maxRecDepth 20000 in
theorem e_X3_nextRow_93 (σ : Mem) (x3 x4 : Int)  {q : (Int × Mem)} (h : f_X3_nextRow_93 σ x3 x4 = some q) : Ev M_X3_nextRow 181 181 (some (0, q.1), rho, q.2) 93 181 rho σ [(2, (36 : Int)), (9, 0), (9, 0), (0, x3), (0, x4)] [] := by
  unfold f_X3_nextRow_93 at h
  obtain ⟨e, hl, h⟩ := bind_of h
  refine loop_ev (K := K_X3_nextRow_93  (some (0, q.1), rho, q.2)) (b_X3_nextRow_93 ) FU (x3, x4, σ) e hl ?_
  show Ev M_X3_nextRow 181 181 _ 115 181 rho e [(9, 0), (9, 0), (9, 0), (9, 0), (9, 0)] []
  replace h : some ((1 : Int), e) = some q := h
  refine ev_iconst dX3_nextRow_115 (by decide) ?_
  obtain rfl := Option.some.inj h
  exact ev_zret dX3_nextRow_116 rfl (chk_pos (.inr rfl))
set_option maxHeartbeats 4000000 in
set_option maxRecDepth 20000 in
theorem e_X3_nextRow_75 (σ : Mem) (x1 x2 : Int)  {q : (Int × Mem)} (h : f_X3_nextRow_75 σ x1 x2 = some q) : Ev M_X3_nextRow 181 181 (some (0, q.1), rho, q.2) 75 181 rho σ [(2, (36 : Int)), (0, x1), (0, x2), (9, 0), (9, 0)] [] := by
  unfold f_X3_nextRow_75 at h
  refine ev_aload_n dX3_nextRow_75 rfl (by decide) ?_
  refine ev_iload_n dX3_nextRow_76 rfl ?_
  refine ev_iload_n dX3_nextRow_77 rfl ?_
  obtain ⟨σ5, hc6, h⟩ := bind_of h
  refine ev_invV_n (k := (36 : Int)) (av := [(0, x1), (0, x2)]) (st := []) (τ := σ5) dX3_nextRow_78 ml_X3_117 mv_X3_swap (T := TX3) (ci := 2) rfl sp36 (by decide) (by decide) rfl ⟨Nat.le_of_ble_eq_true rfl, Nat.le_of_ble_eq_true rfl⟩ (Nat.le_of_ble_eq_true rfl) (c_X3_swap hc6) ?_
  refine ev_iload_n dX3_nextRow_81 rfl ?_
  refine ev_iconst dX3_nextRow_82 (by decide) ?_
  refine ev_iadd dX3_nextRow_83 ?_
  refine ev_istore_nG dX3_nextRow_84 h rfl (by decide) (fun v7 h => ?_)
  show Ev _ _ _ _ 85 _ _ _ [(2, (36 : Int)), (0, x1), (0, x2), (0, v7), (9, 0)] _
  refine ev_aload_n dX3_nextRow_85 rfl (by decide) ?_
  refine ev_getf (j := 6) (t := 0) (x := (σ5 (36 : Int) 6)) dX3_nextRow_86 cf_X3 wf_X3_30 sp36 (by decide) (by decide) rfl (by decide) rfl ?_
  refine ev_iconst dX3_nextRow_89 (by decide) ?_
  show Ev _ _ _ _ 90 _ _ _ _ _
  refine ev_isub dX3_nextRow_90 ?_
  refine ev_istoreG dX3_nextRow_91 h rfl (by decide) (fun v8 h => ?_)
  show Ev _ _ _ _ 93 _ _ _ [(2, (36 : Int)), (0, x1), (0, x2), (0, v7), (0, v8)] _
  exact ev_sub (L2 := [(2, (36 : Int)), (9, 0), (9, 0), (0, v7), (0, v8)]) (e_X3_nextRow_93 σ5 v7 v8 h) ⟨.inr rfl, .inl rfl, .inl rfl, .inr rfl, .inr rfl, trivial⟩
set_option maxHeartbeats 4000000 in
set_option maxRecDepth 20000 in
theorem b_X3_nextRow_47 (σ : Mem) (x1 : Int)  {r : Option V × Mem × Mem} : ∀ a x, f_X3_nextRow_47B σ x1 a = some x → K_X3_nextRow_47 σ x1 r x → K_X3_nextRow_47 σ x1 r (.inl a) := by
  intro a x h K
  have ⟨x2, ea⟩ : ∃ z, z = a := ⟨_, rfl⟩
  subst ea
  have h : f_X3_nextRow_47C σ x1 x2 = some x := h
  unfold f_X3_nextRow_47C at h
  show Ev M_X3_nextRow 181 181 r 47 181 rho σ [(2, (36 : Int)), (0, x1), (0, x2), (9, 0), (9, 0)] []
  refine ev_iload_n dX3_nextRow_47 rfl ?_
  refine ev_iload_n dX3_nextRow_48 rfl ?_
  refine ev_iconst dX3_nextRow_49 (by decide) ?_
  refine ev_iadd dX3_nextRow_50 ?_
  refine ev_icmp_le (tgt := 75) dX3_nextRow_51 rfl h (fun cb h => ?_) (fun cb h => ?_)
  · obtain rfl := Option.some.inj h
    exact ev_sub (L2 := [(2, (36 : Int)), (0, x1), (0, x2), (9, 0), (9, 0)]) K ⟨.inr rfl, .inr rfl, .inr rfl, .inl rfl, .inl rfl, trivial⟩
  refine ev_aload_n dX3_nextRow_54 rfl (by decide) ?_
  refine ev_getf (j := 3) (t := 2) (x := (40 : Int)) dX3_nextRow_55 cf_X3 wf_X3_21 sp36 (by decide) (by decide) rfl (by decide) (rp36_3 _) ?_
  refine ev_iload_n dX3_nextRow_58 rfl ?_
  refine ev_iald dX3_nextRow_59 sp40 (by decide) (by decide) h (fun h => ?_)
  refine ev_aload_n dX3_nextRow_60 rfl (by decide) ?_
  refine ev_getf (j := 3) (t := 2) (x := (40 : Int)) dX3_nextRow_61 cf_X3 wf_X3_21 sp36 (by decide) (by decide) rfl (by decide) (rp36_3 _) ?_
  refine ev_iload_n dX3_nextRow_64 rfl ?_
  refine ev_iald dX3_nextRow_65 sp40 (by decide) (by decide) h (fun h => ?_)
  refine ev_icmp_ge (tgt := 75) dX3_nextRow_66 rfl h (fun cb h => ?_) (fun cb h => ?_)
  · obtain rfl := Option.some.inj h
    exact ev_sub (L2 := [(2, (36 : Int)), (0, x1), (0, x2), (9, 0), (9, 0)]) K ⟨.inr rfl, .inr rfl, .inr rfl, .inl rfl, .inl rfl, trivial⟩
  refine ev_iincG dX3_nextRow_69 rfl h rfl (fun v4 h => ?_)
  show Ev _ _ _ _ 72 _ _ _ [(2, (36 : Int)), (0, x1), (0, v4), (9, 0), (9, 0)] _
  refine ev_goto (tgt := 47) dX3_nextRow_72 rfl ?_
  obtain rfl := Option.some.inj h
  exact ev_sub (L2 := [(2, (36 : Int)), (0, x1), (0, v4), (9, 0), (9, 0)]) K ⟨.inr rfl, .inr rfl, .inr rfl, .inl rfl, .inl rfl, trivial⟩
set_option maxHeartbeats 4000000 in
set_option maxRecDepth 20000 in
theorem e_X3_nextRow_47 (σ : Mem) (x1 x2 : Int)  {q : (Int × Mem)} (h : f_X3_nextRow_47 σ x1 x2 = some q) : Ev M_X3_nextRow 181 181 (some (0, q.1), rho, q.2) 47 181 rho σ [(2, (36 : Int)), (0, x1), (0, x2), (9, 0), (9, 0)] [] := by
  unfold f_X3_nextRow_47 at h
  obtain ⟨e, hl, h⟩ := bind_of h
  refine loop_ev (K := K_X3_nextRow_47 σ x1 (some (0, q.1), rho, q.2)) (b_X3_nextRow_47 σ x1) FU x2 e hl ?_
  show Ev M_X3_nextRow 181 181 _ 75 181 rho σ [(2, (36 : Int)), (0, x1), (0, e), (9, 0), (9, 0)] []
  replace h : f_X3_nextRow_75 σ x1 e = some q := h
  exact ev_sub (L2 := [(2, (36 : Int)), (0, x1), (0, e), (9, 0), (9, 0)]) (e_X3_nextRow_75 σ x1 e h) ⟨.inr rfl, .inr rfl, .inr rfl, .inl rfl, .inl rfl, trivial⟩
set_option maxHeartbeats 4000000 in
set_option maxRecDepth 20000 in
theorem e_X3_nextRow_34 (σ : Mem) (x1 : Int)  {q : (Int × Mem)} (h : f_X3_nextRow_34 σ x1 = some q) : Ev M_X3_nextRow 181 181 (some (0, q.1), rho, q.2) 34 181 rho σ [(2, (36 : Int)), (0, x1), (9, 0), (9, 0), (9, 0)] [] := by
  unfold f_X3_nextRow_34 at h
  refine ev_iload_n dX3_nextRow_34 rfl ?_
  refine ev_if_ge (tgt := 40) dX3_nextRow_35 rfl h (fun cb h => ?_) (fun cb h => ?_)
  · refine ev_aload_n dX3_nextRow_40 rfl (by decide) ?_
    refine ev_getf (j := 6) (t := 0) (x := (σ (36 : Int) 6)) dX3_nextRow_41 cf_X3 wf_X3_30 sp36 (by decide) (by decide) rfl (by decide) rfl ?_
    refine ev_iconst dX3_nextRow_44 (by decide) ?_
    refine ev_isub dX3_nextRow_45 ?_
    refine ev_istore_nG dX3_nextRow_46 h rfl (by decide) (fun v3 h => ?_)
    show Ev _ _ _ _ 47 _ _ _ [(2, (36 : Int)), (0, x1), (0, v3), (9, 0), (9, 0)] _
    exact ev_sub (L2 := [(2, (36 : Int)), (0, x1), (0, v3), (9, 0), (9, 0)]) (e_X3_nextRow_47 σ x1 v3 h) ⟨.inr rfl, .inr rfl, .inr rfl, .inl rfl, .inl rfl, trivial⟩
  refine ev_iconst dX3_nextRow_38 (by decide) ?_
  obtain rfl := Option.some.inj h
  exact ev_zret dX3_nextRow_39 rfl (chk_pos (.inl rfl))
set_option maxHeartbeats 4000000 in
set_option maxRecDepth 20000 in
theorem b_X3_nextRow_7 (σ : Mem)  {r : Option V × Mem × Mem} : ∀ a x, f_X3_nextRow_7B σ a = some x → K_X3_nextRow_7 σ r x → K_X3_nextRow_7 σ r (.inl a) := by
  intro a x h K
  have ⟨x1, ea⟩ : ∃ z, z = a := ⟨_, rfl⟩
  subst ea
  have h : f_X3_nextRow_7C σ x1 = some x := h
  unfold f_X3_nextRow_7C at h
  show Ev M_X3_nextRow 181 181 r 7 181 rho σ [(2, (36 : Int)), (0, x1), (9, 0), (9, 0), (9, 0)] []
  refine ev_iload_n dX3_nextRow_7 rfl ?_
  refine ev_if_lt (tgt := 34) dX3_nextRow_8 rfl h (fun cb h => ?_) (fun cb h => ?_)
  · obtain rfl := Option.some.inj h
    exact ev_sub (L2 := [(2, (36 : Int)), (0, x1), (9, 0), (9, 0), (9, 0)]) K ⟨.inr rfl, .inr rfl, .inl rfl, .inl rfl, .inl rfl, trivial⟩
  refine ev_aload_n dX3_nextRow_11 rfl (by decide) ?_
  refine ev_getf (j := 3) (t := 2) (x := (40 : Int)) dX3_nextRow_12 cf_X3 wf_X3_21 sp36 (by decide) (by decide) rfl (by decide) (rp36_3 _) ?_
  refine ev_iload_n dX3_nextRow_15 rfl ?_
  refine ev_iald dX3_nextRow_16 sp40 (by decide) (by decide) h (fun h => ?_)
  refine ev_aload_n dX3_nextRow_17 rfl (by decide) ?_
  refine ev_getf (j := 3) (t := 2) (x := (40 : Int)) dX3_nextRow_18 cf_X3 wf_X3_21 sp36 (by decide) (by decide) rfl (by decide) (rp36_3 _) ?_
  refine ev_iload_n dX3_nextRow_21 rfl ?_
  refine ev_iconst dX3_nextRow_22 (by decide) ?_
  refine ev_iadd dX3_nextRow_23 ?_
  refine ev_iald dX3_nextRow_24 sp40 (by decide) (by decide) h (fun h => ?_)
  refine ev_icmp_le (tgt := 34) dX3_nextRow_25 rfl h (fun cb h => ?_) (fun cb h => ?_)
  · obtain rfl := Option.some.inj h
    exact ev_sub (L2 := [(2, (36 : Int)), (0, x1), (9, 0), (9, 0), (9, 0)]) K ⟨.inr rfl, .inr rfl, .inl rfl, .inl rfl, .inl rfl, trivial⟩
  refine ev_iincG dX3_nextRow_28 rfl h rfl (fun v2 h => ?_)
  show Ev _ _ _ _ 31 _ _ _ [(2, (36 : Int)), (0, v2), (9, 0), (9, 0), (9, 0)] _
  refine ev_goto (tgt := 7) dX3_nextRow_31 rfl ?_
  obtain rfl := Option.some.inj h
  exact ev_sub (L2 := [(2, (36 : Int)), (0, v2), (9, 0), (9, 0), (9, 0)]) K ⟨.inr rfl, .inr rfl, .inl rfl, .inl rfl, .inl rfl, trivial⟩
set_option maxHeartbeats 4000000 in
set_option maxRecDepth 20000 in
theorem e_X3_nextRow_7 (σ : Mem) (x1 : Int)  {q : (Int × Mem)} (h : f_X3_nextRow_7 σ x1 = some q) : Ev M_X3_nextRow 181 181 (some (0, q.1), rho, q.2) 7 181 rho σ [(2, (36 : Int)), (0, x1), (9, 0), (9, 0), (9, 0)] [] := by
  unfold f_X3_nextRow_7 at h
  obtain ⟨e, hl, h⟩ := bind_of h
  refine loop_ev (K := K_X3_nextRow_7 σ (some (0, q.1), rho, q.2)) (b_X3_nextRow_7 σ) FU x1 e hl ?_
  show Ev M_X3_nextRow 181 181 _ 34 181 rho σ [(2, (36 : Int)), (0, e), (9, 0), (9, 0), (9, 0)] []
  replace h : f_X3_nextRow_34 σ e = some q := h
  exact ev_sub (L2 := [(2, (36 : Int)), (0, e), (9, 0), (9, 0), (9, 0)]) (e_X3_nextRow_34 σ e h) ⟨.inr rfl, .inr rfl, .inl rfl, .inl rfl, .inl rfl, trivial⟩
set_option maxHeartbeats 4000000 in
set_option maxRecDepth 20000 in
theorem c_X3_nextRow {σ : Mem}  {q : (Int × Mem)} (h : f_X3_nextRow σ  = some q) : Ms yX3_nextRow M_X3_nextRow 181 181 [(2, (36 : Int))] rho σ (some (0, q.1), rho, q.2) := by
  refine Ms.of 4 (by decide +kernel) rfl (fun z => absurd z (by decide)) (fun _ _ _ => trivial) rfl rfl ?_
  unfold f_X3_nextRow at h
  show Ev M_X3_nextRow 181 181 _ 0 181 rho σ [(2, (36 : Int)), (9, 0), (9, 0), (9, 0), (9, 0)] []
  refine ev_aload_n dX3_nextRow_0 rfl (by decide) ?_
  refine ev_getf (j := 6) (t := 0) (x := (σ (36 : Int) 6)) dX3_nextRow_1 cf_X3 wf_X3_30 sp36 (by decide) (by decide) rfl (by decide) rfl ?_
  refine ev_iconst dX3_nextRow_4 (by decide) ?_
  refine ev_isub dX3_nextRow_5 ?_
  refine ev_istore_nG dX3_nextRow_6 h rfl (by decide) (fun v1 h => ?_)
  show Ev _ _ _ _ 7 _ _ _ [(2, (36 : Int)), (0, v1), (9, 0), (9, 0), (9, 0)] _
  exact ev_sub (L2 := [(2, (36 : Int)), (0, v1), (9, 0), (9, 0), (9, 0)]) (e_X3_nextRow_7 σ v1 h) ⟨.inr rfl, .inr rfl, .inl rfl, .inl rfl, .inl rfl, trivial⟩
def K_X3_search_52 (x1 x2 : Int) (r : Option V × Mem × Mem) : (Int × Int × Mem) ⊕ ((Mem)) → Prop := Sum.elim (fun a => Ev M_X3_search 181 181 r 52 181 rho a.2.2 [(2, (36 : Int)), (0, x1), (1, x2), (9, 0), (0, a.1), (0, a.2.1), (9, 0)] []) (fun e => Ev M_X3_search 181 181 r 141 181 rho e [(2, (36 : Int)), (9, 0), (1, x2), (9, 0), (9, 0), (9, 0), (9, 0)] [])
def K_X3_search_22 (x1 x2 : Int) (r : Option V × Mem × Mem) : (Int × Mem) ⊕ ((Mem)) → Prop := Sum.elim (fun a => Ev M_X3_search 181 181 r 22 181 rho a.2 [(2, (36 : Int)), (0, x1), (1, x2), (9, 0), (0, a.1), (9, 0), (9, 0)] []) (fun e => Ev M_X3_search 181 181 r 46 181 rho e [(2, (36 : Int)), (0, x1), (1, x2), (9, 0), (9, 0), (9, 0), (9, 0)] [])
set_option maxHeartbeats 4000000 in
set_option maxRecDepth 20000 in
theorem e_X3_search_129 (σ : Mem) (x1 x2 x5 : Int)  {q : ((Int × Int × Mem) ⊕ ((Mem)))} (h : f_X3_search_129 σ x1 x2 x5 = some q) {r : Option V × Mem × Mem} (K : K_X3_search_52 x1 x2 r q) : Ev M_X3_search 181 181 r 129 181 rho σ [(2, (36 : Int)), (0, x1), (1, x2), (9, 0), (9, 0), (0, x5), (9, 0)] [] := by
  unfold f_X3_search_129 at h
  refine ev_aload_n dX3_search_129 rfl (by decide) ?_
  obtain ⟨v9, hc10, h⟩ := bind_of h
  refine ev_invV_v (k := (36 : Int)) (av := []) (st := []) (v := (0, v9.1)) (τ := v9.2) dX3_search_130 ml_X3_96 mv_X3_nextRow (T := TX3) (ci := 2) rfl sp36 (by decide) (by decide) rfl ⟨Nat.le_of_ble_eq_true rfl, Nat.le_of_ble_eq_true rfl⟩ (Nat.le_of_ble_eq_true rfl) (c_X3_nextRow hc10) ?_
  refine ev_istoreG dX3_search_133 h rfl (by decide) (fun v11 h => ?_)
  show Ev _ _ _ _ 135 _ _ _ [(2, (36 : Int)), (0, x1), (1, x2), (9, 0), (0, v11), (0, x5), (9, 0)] _
  refine ev_iincG dX3_search_135 rfl h rfl (fun v12 h => ?_)
  show Ev _ _ _ _ 138 _ _ _ [(2, (36 : Int)), (0, x1), (1, x2), (9, 0), (0, v11), (0, v12), (9, 0)] _
  refine ev_goto (tgt := 52) dX3_search_138 rfl ?_
  obtain rfl := Option.some.inj h
  exact ev_sub (L2 := [(2, (36 : Int)), (0, x1), (1, x2), (9, 0), (0, v11), (0, v12), (9, 0)]) K ⟨.inr rfl, .inr rfl, .inr rfl, .inl rfl, .inr rfl, .inr rfl, .inl rfl, trivial⟩
set_option maxHeartbeats 4000000 in
set_option maxRecDepth 20000 in
theorem e_X3_search_119 (σ : Mem) (x1 x2 x5 : Int)  {q : ((Int × Int × Mem) ⊕ ((Mem)))} (h : f_X3_search_119 σ x1 x2 x5 = some q) {r : Option V × Mem × Mem} (K : K_X3_search_52 x1 x2 r q) : Ev M_X3_search 181 181 r 119 181 rho σ [(2, (36 : Int)), (0, x1), (1, x2), (9, 0), (9, 0), (0, x5), (9, 0)] [] := by
  unfold f_X3_search_119 at h
  refine ev_aload_n dX3_search_119 rfl (by decide) ?_
  refine ev_dup dX3_search_120 (show (2 : Nat) ≠ 1 by decide) ?_
  refine ev_getf (j := 12) (t := 0) (x := (σ (36 : Int) 12)) dX3_search_121 cf_X3 wf_X3_34 sp36 (by decide) (by decide) rfl (by decide) rfl ?_
  refine ev_iconst dX3_search_124 (by decide) ?_
  refine ev_iadd dX3_search_125 ?_
  refine ev_putfG (j := 12) (t := 0) dX3_search_126 cf_X3 wf_X3_34 sp36 (by decide) (by decide) rfl (by decide) (by decide) rfl (fun z => absurd z (by decide +kernel)) h (fun σ15 h => ?_)
  exact ev_sub (L2 := [(2, (36 : Int)), (0, x1), (1, x2), (9, 0), (9, 0), (0, x5), (9, 0)]) (e_X3_search_129 σ15 x1 x2 x5 h K) ⟨.inr rfl, .inr rfl, .inr rfl, .inl rfl, .inl rfl, .inr rfl, .inl rfl, trivial⟩
set_option maxHeartbeats 4000000 in
set_option maxRecDepth 20000 in
theorem e_X3_search_99 (σ : Mem) (x1 x2 x5 x6 : Int)  {q : ((Int × Int × Mem) ⊕ ((Mem)))} (h : f_X3_search_99 σ x1 x2 x5 x6 = some q) {r : Option V × Mem × Mem} (K : K_X3_search_52 x1 x2 r q) : Ev M_X3_search 181 181 r 99 181 rho σ [(2, (36 : Int)), (0, x1), (1, x2), (9, 0), (9, 0), (0, x5), (0, x6)] [] := by
  unfold f_X3_search_99 at h
  refine ev_aload_n dX3_search_99 rfl (by decide) ?_
  refine ev_iload dX3_search_100 rfl ?_
  refine ev_putfG (j := 13) (t := 0) dX3_search_102 cf_X3 wf_X3_37 sp36 (by decide) (by decide) rfl (by decide) (by decide) rfl (fun z => absurd z (by decide +kernel)) h (fun σ13 h => ?_)
  refine ev_aload_n dX3_search_105 rfl (by decide) ?_
  refine ev_getf (j := 3) (t := 2) (x := (40 : Int)) dX3_search_106 cf_X3 wf_X3_21 sp36 (by decide) (by decide) rfl (by decide) (rp36_3 _) ?_
  refine ev_iconst dX3_search_109 (by decide) ?_
  refine ev_aload_n dX3_search_110 rfl (by decide) ?_
  refine ev_getf (j := 4) (t := 2) (x := (41 : Int)) dX3_search_111 cf_X3 wf_X3_24 sp36 (by decide) (by decide) rfl (by decide) (rp36_4 _) ?_
  refine ev_iconst dX3_search_114 (by decide) ?_
  refine ev_iconst dX3_search_115 (by decide) ?_
  refine ev_copyiG dX3_search_116 wa_X3_90 wa_words sp40 (by decide) (by decide) sp41 (by decide) (by decide) (by decide) (Nat.le_of_ble_eq_true rfl) h (fun σ14 h => ?_)
  exact ev_sub (L2 := [(2, (36 : Int)), (0, x1), (1, x2), (9, 0), (9, 0), (0, x5), (9, 0)]) (e_X3_search_119 σ14 x1 x2 x5 h K) ⟨.inr rfl, .inr rfl, .inr rfl, .inl rfl, .inl rfl, .inr rfl, .inl rfl, trivial⟩
set_option maxHeartbeats 4000000 in
set_option maxRecDepth 20000 in
theorem e_X3_search_141 (σ : Mem) (x2 : Int)  {q : (Int × Mem)} (h : f_X3_search_141 σ x2 = some q) : Ev M_X3_search 181 181 (some (0, q.1), rho, q.2) 141 181 rho σ [(2, (36 : Int)), (9, 0), (1, x2), (9, 0), (9, 0), (9, 0), (9, 0)] [] := by
  unfold f_X3_search_141 at h
  refine ev_aload_n dX3_search_141 rfl (by decide) ?_
  refine ev_getf (j := 12) (t := 0) (x := (σ (36 : Int) 12)) dX3_search_142 cf_X3 wf_X3_34 sp36 (by decide) (by decide) rfl (by decide) rfl ?_
  refine ev_if_le (tgt := 164) dX3_search_145 rfl h (fun cb h => ?_) (fun cb h => ?_)
  · refine ev_iconst dX3_search_164 (by decide) ?_
    obtain rfl := Option.some.inj h
    exact ev_zret dX3_search_165 rfl (chk_pos (.inl rfl))
  refine ev_aload_n dX3_search_148 rfl (by decide) ?_
  refine ev_aload_n dX3_search_149 rfl (by decide) ?_
  refine ev_getf (j := 4) (t := 2) (x := (41 : Int)) dX3_search_150 cf_X3 wf_X3_24 sp36 (by decide) (by decide) rfl (by decide) (rp36_4 _) ?_
  refine ev_lload_n dX3_search_153 rfl ?_
  obtain ⟨v16, hc17, h⟩ := bind_of h
  refine ev_invV_v (k := (36 : Int)) (av := [(2, (41 : Int)), (1, x2)]) (st := []) (v := (0, v16.1)) (τ := v16.2) dX3_search_154 ml_X3_83 mv_X3_walk (T := TX3) (ci := 2) rfl sp36 (by decide) (by decide) rfl ⟨Nat.le_of_ble_eq_true rfl, Nat.le_of_ble_eq_true rfl⟩ (Nat.le_of_ble_eq_true rfl) (c_X3_walk hA41 hc17) ?_
  refine ev_if_eq (tgt := 164) dX3_search_157 rfl h (fun cb h => ?_) (fun cb h => ?_)
  · refine ev_iconst dX3_search_164 (by decide) ?_
    obtain rfl := Option.some.inj h
    exact ev_zret dX3_search_165 rfl (chk_pos (.inl rfl))
  refine ev_iconst dX3_search_160 (by decide) ?_
  refine ev_goto (tgt := 165) dX3_search_161 rfl ?_
  obtain rfl := Option.some.inj h
  exact ev_zret dX3_search_165 rfl (chk_pos (.inr rfl))
set_option maxHeartbeats 4000000 in
set_option maxRecDepth 20000 in
theorem b_X3_search_52 (x1 x2 : Int)  {r : Option V × Mem × Mem} : ∀ a x, f_X3_search_52B x1 x2 a = some x → K_X3_search_52 x1 x2 r x → K_X3_search_52 x1 x2 r (.inl a) := by
  intro a x h K
  obtain ⟨x4, x5, σ⟩ := a
  have h : f_X3_search_52C x1 x2 x4 x5 σ = some x := h
  unfold f_X3_search_52C at h
  show Ev M_X3_search 181 181 r 52 181 rho σ [(2, (36 : Int)), (0, x1), (1, x2), (9, 0), (0, x4), (0, x5), (9, 0)] []
  refine ev_iload dX3_search_52 rfl ?_
  refine ev_bipush dX3_search_54 (by decide) (by decide) ?_
  refine ev_icmp_ge (tgt := 141) dX3_search_56 rfl h (fun cb h => ?_) (fun cb h => ?_)
  · obtain rfl := Option.some.inj h
    exact ev_sub (L2 := [(2, (36 : Int)), (9, 0), (1, x2), (9, 0), (9, 0), (9, 0), (9, 0)]) K ⟨.inr rfl, .inl rfl, .inr rfl, .inl rfl, .inl rfl, .inl rfl, .inl rfl, trivial⟩
  refine ev_iload dX3_search_59 rfl ?_
  refine ev_if_eq (tgt := 141) dX3_search_61 rfl h (fun cb h => ?_) (fun cb h => ?_)
  · obtain rfl := Option.some.inj h
    exact ev_sub (L2 := [(2, (36 : Int)), (9, 0), (1, x2), (9, 0), (9, 0), (9, 0), (9, 0)]) K ⟨.inr rfl, .inl rfl, .inr rfl, .inl rfl, .inl rfl, .inl rfl, .inl rfl, trivial⟩
  refine ev_aload_n dX3_search_64 rfl (by decide) ?_
  refine ev_aload_n dX3_search_65 rfl (by decide) ?_
  refine ev_getf (j := 3) (t := 2) (x := (40 : Int)) dX3_search_66 cf_X3 wf_X3_21 sp36 (by decide) (by decide) rfl (by decide) (rp36_3 _) ?_
  refine ev_lload_n dX3_search_69 rfl ?_
  obtain ⟨v5, hc6, h⟩ := bind_of h
  refine ev_invV_v (k := (36 : Int)) (av := [(2, (40 : Int)), (1, x2)]) (st := []) (v := (0, v5.1)) (τ := v5.2) dX3_search_70 ml_X3_83 mv_X3_walk (T := TX3) (ci := 2) rfl sp36 (by decide) (by decide) rfl ⟨Nat.le_of_ble_eq_true rfl, Nat.le_of_ble_eq_true rfl⟩ (Nat.le_of_ble_eq_true rfl) (c_X3_walk hA40 hc6) ?_
  refine ev_if_eq (tgt := 129) dX3_search_73 rfl h (fun cb h => ?_) (fun cb h => ?_)
  · exact ev_sub (L2 := [(2, (36 : Int)), (0, x1), (1, x2), (9, 0), (9, 0), (0, x5), (9, 0)]) (e_X3_search_129 v5.2 x1 x2 x5 h K) ⟨.inr rfl, .inr rfl, .inr rfl, .inl rfl, .inl rfl, .inr rfl, .inl rfl, trivial⟩
  refine ev_aload_n dX3_search_76 rfl (by decide) ?_
  refine ev_iload_n dX3_search_77 rfl ?_
  obtain ⟨v7, hc8, h⟩ := bind_of h
  refine ev_invV_v (k := (36 : Int)) (av := [(0, x1)]) (st := []) (v := (0, v7)) (τ := v5.2) dX3_search_78 ml_X3_87 mv_X3_measured (T := TX3) (ci := 2) rfl sp36 (by decide) (by decide) rfl ⟨Nat.le_of_ble_eq_true rfl, Nat.le_of_ble_eq_true rfl⟩ (Nat.le_of_ble_eq_true rfl) (c_X3_measured hc8) ?_
  refine ev_istore dX3_search_81 rfl (by decide) ?_
  show Ev _ _ _ _ 83 _ _ _ [(2, (36 : Int)), (0, x1), (1, x2), (9, 0), (0, x4), (0, x5), (0, v7)] _
  refine ev_aload_n dX3_search_83 rfl (by decide) ?_
  refine ev_getf (j := 12) (t := 0) (x := (v5.2 (36 : Int) 12)) dX3_search_84 cf_X3 wf_X3_34 sp36 (by decide) (by decide) rfl (by decide) rfl ?_
  refine ev_if_eq (tgt := 99) dX3_search_87 rfl h (fun cb h => ?_) (fun cb h => ?_)
  · exact ev_sub (L2 := [(2, (36 : Int)), (0, x1), (1, x2), (9, 0), (9, 0), (0, x5), (0, v7)]) (e_X3_search_99 v5.2 x1 x2 x5 v7 h K) ⟨.inr rfl, .inr rfl, .inr rfl, .inl rfl, .inl rfl, .inr rfl, .inr rfl, trivial⟩
  refine ev_iload dX3_search_90 rfl ?_
  refine ev_aload_n dX3_search_92 rfl (by decide) ?_
  refine ev_getf (j := 13) (t := 0) (x := (v5.2 (36 : Int) 13)) dX3_search_93 cf_X3 wf_X3_37 sp36 (by decide) (by decide) rfl (by decide) rfl ?_
  refine ev_icmp_ge (tgt := 119) dX3_search_96 rfl h (fun cb h => ?_) (fun cb h => ?_)
  · exact ev_sub (L2 := [(2, (36 : Int)), (0, x1), (1, x2), (9, 0), (9, 0), (0, x5), (9, 0)]) (e_X3_search_119 v5.2 x1 x2 x5 h K) ⟨.inr rfl, .inr rfl, .inr rfl, .inl rfl, .inl rfl, .inr rfl, .inl rfl, trivial⟩
  exact ev_sub (L2 := [(2, (36 : Int)), (0, x1), (1, x2), (9, 0), (9, 0), (0, x5), (0, v7)]) (e_X3_search_99 v5.2 x1 x2 x5 v7 h K) ⟨.inr rfl, .inr rfl, .inr rfl, .inl rfl, .inl rfl, .inr rfl, .inr rfl, trivial⟩
set_option maxHeartbeats 4000000 in
set_option maxRecDepth 20000 in
theorem e_X3_search_52 (σ : Mem) (x1 x2 x4 x5 : Int)  {q : (Int × Mem)} (h : f_X3_search_52 σ x1 x2 x4 x5 = some q) : Ev M_X3_search 181 181 (some (0, q.1), rho, q.2) 52 181 rho σ [(2, (36 : Int)), (0, x1), (1, x2), (9, 0), (0, x4), (0, x5), (9, 0)] [] := by
  unfold f_X3_search_52 at h
  obtain ⟨e, hl, h⟩ := bind_of h
  refine loop_ev (K := K_X3_search_52 x1 x2 (some (0, q.1), rho, q.2)) (b_X3_search_52 x1 x2) FU (x4, x5, σ) e hl ?_
  show Ev M_X3_search 181 181 _ 141 181 rho e [(2, (36 : Int)), (9, 0), (1, x2), (9, 0), (9, 0), (9, 0), (9, 0)] []
  replace h : f_X3_search_141 e x2 = some q := h
  exact ev_sub (L2 := [(2, (36 : Int)), (9, 0), (1, x2), (9, 0), (9, 0), (9, 0), (9, 0)]) (e_X3_search_141 e x2 h) ⟨.inr rfl, .inl rfl, .inr rfl, .inl rfl, .inl rfl, .inl rfl, .inl rfl, trivial⟩
set_option maxHeartbeats 4000000 in
set_option maxRecDepth 20000 in
theorem e_X3_search_46 (σ : Mem) (x1 x2 : Int)  {q : (Int × Mem)} (h : f_X3_search_46 σ x1 x2 = some q) : Ev M_X3_search 181 181 (some (0, q.1), rho, q.2) 46 181 rho σ [(2, (36 : Int)), (0, x1), (1, x2), (9, 0), (9, 0), (9, 0), (9, 0)] [] := by
  unfold f_X3_search_46 at h
  refine ev_iconst dX3_search_46 (by decide) ?_
  refine ev_istore dX3_search_47 rfl (by decide) ?_
  show Ev _ _ _ _ 49 _ _ _ [(2, (36 : Int)), (0, x1), (1, x2), (9, 0), (0, (1 : Int)), (9, 0), (9, 0)] _
  refine ev_iconst dX3_search_49 (by decide) ?_
  refine ev_istore dX3_search_50 rfl (by decide) ?_
  show Ev _ _ _ _ 52 _ _ _ [(2, (36 : Int)), (0, x1), (1, x2), (9, 0), (0, (1 : Int)), (0, (0 : Int)), (9, 0)] _
  exact ev_sub (L2 := [(2, (36 : Int)), (0, x1), (1, x2), (9, 0), (0, (1 : Int)), (0, (0 : Int)), (9, 0)]) (e_X3_search_52 σ x1 x2 (1 : Int) (0 : Int) h) ⟨.inr rfl, .inr rfl, .inr rfl, .inl rfl, .inr rfl, .inr rfl, .inl rfl, trivial⟩
set_option maxHeartbeats 4000000 in
set_option maxRecDepth 20000 in
theorem b_X3_search_22 (x1 x2 : Int)  {r : Option V × Mem × Mem} : ∀ a x, f_X3_search_22B x1 x2 a = some x → K_X3_search_22 x1 x2 r x → K_X3_search_22 x1 x2 r (.inl a) := by
  intro a x h K
  obtain ⟨x4, σ⟩ := a
  have h : f_X3_search_22C x1 x2 x4 σ = some x := h
  unfold f_X3_search_22C at h
  show Ev M_X3_search 181 181 r 22 181 rho σ [(2, (36 : Int)), (0, x1), (1, x2), (9, 0), (0, x4), (9, 0), (9, 0)] []
  refine ev_iload dX3_search_22 rfl ?_
  refine ev_aload_n dX3_search_24 rfl (by decide) ?_
  refine ev_getf (j := 6) (t := 0) (x := (σ (36 : Int) 6)) dX3_search_25 cf_X3 wf_X3_30 sp36 (by decide) (by decide) rfl (by decide) rfl ?_
  refine ev_icmp_ge (tgt := 46) dX3_search_28 rfl h (fun cb h => ?_) (fun cb h => ?_)
  · obtain rfl := Option.some.inj h
    exact ev_sub (L2 := [(2, (36 : Int)), (0, x1), (1, x2), (9, 0), (9, 0), (9, 0), (9, 0)]) K ⟨.inr rfl, .inr rfl, .inr rfl, .inl rfl, .inl rfl, .inl rfl, .inl rfl, trivial⟩
  refine ev_aload_n dX3_search_31 rfl (by decide) ?_
  refine ev_getf (j := 3) (t := 2) (x := (40 : Int)) dX3_search_32 cf_X3 wf_X3_21 sp36 (by decide) (by decide) rfl (by decide) (rp36_3 _) ?_
  refine ev_iload dX3_search_35 rfl ?_
  refine ev_iload dX3_search_37 rfl ?_
  refine ev_iastG dX3_search_39 sp40 (by decide) (by decide) h (fun σ3 h => ?_)
  refine ev_iincG dX3_search_40 rfl h rfl (fun v4 h => ?_)
  show Ev _ _ _ _ 43 _ _ _ [(2, (36 : Int)), (0, x1), (1, x2), (9, 0), (0, v4), (9, 0), (9, 0)] _
  refine ev_goto (tgt := 22) dX3_search_43 rfl ?_
  obtain rfl := Option.some.inj h
  exact ev_sub (L2 := [(2, (36 : Int)), (0, x1), (1, x2), (9, 0), (0, v4), (9, 0), (9, 0)]) K ⟨.inr rfl, .inr rfl, .inr rfl, .inl rfl, .inr rfl, .inl rfl, .inl rfl, trivial⟩
set_option maxHeartbeats 4000000 in
set_option maxRecDepth 20000 in
theorem e_X3_search_22 (σ : Mem) (x1 x2 x4 : Int)  {q : (Int × Mem)} (h : f_X3_search_22 σ x1 x2 x4 = some q) : Ev M_X3_search 181 181 (some (0, q.1), rho, q.2) 22 181 rho σ [(2, (36 : Int)), (0, x1), (1, x2), (9, 0), (0, x4), (9, 0), (9, 0)] [] := by
  unfold f_X3_search_22 at h
  obtain ⟨e, hl, h⟩ := bind_of h
  refine loop_ev (K := K_X3_search_22 x1 x2 (some (0, q.1), rho, q.2)) (b_X3_search_22 x1 x2) FU (x4, σ) e hl ?_
  show Ev M_X3_search 181 181 _ 46 181 rho e [(2, (36 : Int)), (0, x1), (1, x2), (9, 0), (9, 0), (9, 0), (9, 0)] []
  replace h : f_X3_search_46 e x1 x2 = some q := h
  exact ev_sub (L2 := [(2, (36 : Int)), (0, x1), (1, x2), (9, 0), (9, 0), (9, 0), (9, 0)]) (e_X3_search_46 e x1 x2 h) ⟨.inr rfl, .inr rfl, .inr rfl, .inl rfl, .inl rfl, .inl rfl, .inl rfl, trivial⟩
set_option maxHeartbeats 4000000 in
set_option maxRecDepth 20000 in
theorem c_X3_search {σ : Mem} {x1 x2 : Int}  {q : (Int × Mem)} (h : f_X3_search σ x1 x2 = some q) : Ms yX3_search M_X3_search 181 181 [(2, (36 : Int)), (0, x1), (1, x2)] rho σ (some (0, q.1), rho, q.2) := by
  refine Ms.of 3 (by decide +kernel) rfl (fun z => absurd z (by decide)) (fun _ _ _ => trivial) rfl rfl ?_
  unfold f_X3_search at h
  show Ev M_X3_search 181 181 _ 0 181 rho σ [(2, (36 : Int)), (0, x1), (1, x2), (9, 0), (9, 0), (9, 0), (9, 0)] []
  refine ev_aload_n dX3_search_0 rfl (by decide) ?_
  refine ev_iconst dX3_search_1 (by decide) ?_
  refine ev_putfG (j := 12) (t := 0) dX3_search_2 cf_X3 wf_X3_34 sp36 (by decide) (by decide) rfl (by decide) (by decide) rfl (fun z => absurd z (by decide +kernel)) h (fun σ1 h => ?_)
  refine ev_aload_n dX3_search_5 rfl (by decide) ?_
  refine ev_iconst dX3_search_6 (by decide) ?_
  refine ev_putfG (j := 13) (t := 0) dX3_search_7 cf_X3 wf_X3_37 sp36 (by decide) (by decide) rfl (by decide) (by decide) rfl (fun z => absurd z (by decide +kernel)) h (fun σ2 h => ?_)
  refine ev_aload_n dX3_search_10 rfl (by decide) ?_
  refine ev_getf (j := 9) (t := 0) (x := (σ2 (36 : Int) 9)) dX3_search_11 cf_X3 wf_X3_59 sp36 (by decide) (by decide) rfl (by decide) rfl ?_
  refine ev_if_ge (tgt := 19) dX3_search_14 rfl h (fun cb h => ?_) (fun cb h => ?_)
  · refine ev_iconst dX3_search_19 (by decide) ?_
    refine ev_istore dX3_search_20 rfl (by decide) ?_
    show Ev _ _ _ _ 22 _ _ _ [(2, (36 : Int)), (0, x1), (1, x2), (9, 0), (0, (0 : Int)), (9, 0), (9, 0)] _
    exact ev_sub (L2 := [(2, (36 : Int)), (0, x1), (1, x2), (9, 0), (0, (0 : Int)), (9, 0), (9, 0)]) (e_X3_search_22 σ2 x1 x2 (0 : Int) h) ⟨.inr rfl, .inr rfl, .inr rfl, .inl rfl, .inr rfl, .inl rfl, .inl rfl, trivial⟩
  refine ev_iconst dX3_search_17 (by decide) ?_
  obtain rfl := Option.some.inj h
  exact ev_zret dX3_search_18 rfl (chk_pos (.inl rfl))
set_option maxHeartbeats 4000000 in
set_option maxRecDepth 20000 in
theorem c_X3_count {σ : Mem}  {q : Int} (h : f_X3_count σ  = some q) : Ms yX3_count M_X3_count 181 181 [(2, (36 : Int))] rho σ (some (0, q), rho, σ) := by
  refine Ms.of 0 (by decide +kernel) rfl (fun z => absurd z (by decide)) (fun _ _ _ => trivial) rfl rfl ?_
  unfold f_X3_count at h
  show Ev M_X3_count 181 181 _ 0 181 rho σ [(2, (36 : Int))] []
  refine ev_aload_n dX3_count_0 rfl (by decide) ?_
  refine ev_getf (j := 6) (t := 0) (x := (σ (36 : Int) 6)) dX3_count_1 cf_X3 wf_X3_30 sp36 (by decide) (by decide) rfl (by decide) rfl ?_
  obtain rfl := Option.some.inj h
  exact ev_iret dX3_count_4 rfl rfl
set_option maxHeartbeats 4000000 in
set_option maxRecDepth 20000 in
theorem c_X3_keptSlots {σ : Mem}  {q : Int} (h : f_X3_keptSlots σ  = some q) : Ms yX3_keptSlots M_X3_keptSlots 181 181 [(2, (36 : Int))] rho σ (some (1, q), rho, σ) := by
  refine Ms.of 0 (by decide +kernel) rfl (fun z => absurd z (by decide)) (fun _ _ _ => trivial) rfl rfl ?_
  unfold f_X3_keptSlots at h
  show Ev M_X3_keptSlots 181 181 _ 0 181 rho σ [(2, (36 : Int))] []
  refine ev_aload_n dX3_keptSlots_0 rfl (by decide) ?_
  refine ev_getf (j := 11) (t := 1) (x := (σ (36 : Int) 11)) dX3_keptSlots_1 cf_X3 wf_X3_40 sp36 (by decide) (by decide) rfl (by decide) rfl ?_
  obtain rfl := Option.some.inj h
  exact ev_lret dX3_keptSlots_4 rfl rfl
set_option maxHeartbeats 4000000 in
set_option maxRecDepth 20000 in
theorem c_X3_paperAt {σ : Mem} {x1 : Int}  {q : Int} (h : f_X3_paperAt σ x1 = some q) : Ms yX3_paperAt M_X3_paperAt 181 181 [(2, (36 : Int)), (0, x1)] rho σ (some (0, q), rho, σ) := by
  refine Ms.of 0 (by decide +kernel) rfl (fun z => absurd z (by decide)) (fun _ _ _ => trivial) rfl rfl ?_
  unfold f_X3_paperAt at h
  show Ev M_X3_paperAt 181 181 _ 0 181 rho σ [(2, (36 : Int)), (0, x1)] []
  refine ev_iload_n dX3_paperAt_0 rfl ?_
  refine ev_if_lt (tgt := 26) dX3_paperAt_1 rfl h (fun cb h => ?_) (fun cb h => ?_)
  · refine ev_iconst dX3_paperAt_26 (by decide) ?_
    obtain rfl := Option.some.inj h
    exact ev_iret dX3_paperAt_27 rfl rfl
  refine ev_iload_n dX3_paperAt_4 rfl ?_
  refine ev_aload_n dX3_paperAt_5 rfl (by decide) ?_
  refine ev_getf (j := 6) (t := 0) (x := (σ (36 : Int) 6)) dX3_paperAt_6 cf_X3 wf_X3_30 sp36 (by decide) (by decide) rfl (by decide) rfl ?_
  refine ev_icmp_ge (tgt := 26) dX3_paperAt_9 rfl h (fun cb h => ?_) (fun cb h => ?_)
  · refine ev_iconst dX3_paperAt_26 (by decide) ?_
    obtain rfl := Option.some.inj h
    exact ev_iret dX3_paperAt_27 rfl rfl
  refine ev_aload_n dX3_paperAt_12 rfl (by decide) ?_
  refine ev_getf (j := 0) (t := 2) (x := (37 : Int)) dX3_paperAt_13 cf_X3 wf_X3_9 sp36 (by decide) (by decide) rfl (by decide) (rp36_0 _) ?_
  refine ev_aload_n dX3_paperAt_16 rfl (by decide) ?_
  refine ev_getf (j := 4) (t := 2) (x := (41 : Int)) dX3_paperAt_17 cf_X3 wf_X3_24 sp36 (by decide) (by decide) rfl (by decide) (rp36_4 _) ?_
  refine ev_iload_n dX3_paperAt_20 rfl ?_
  refine ev_iald dX3_paperAt_21 sp41 (by decide) (by decide) h (fun h => ?_)
  refine ev_iald dX3_paperAt_22 sp37 (by decide) (by decide) h (fun h => ?_)
  refine ev_goto (tgt := 27) dX3_paperAt_23 rfl ?_
  obtain rfl := Option.some.inj h
  exact ev_iret dX3_paperAt_27 rfl rfl
set_option maxHeartbeats 4000000 in
set_option maxRecDepth 20000 in
theorem c_X3_beginAt {σ : Mem} {x1 : Int}  {q : Int} (h : f_X3_beginAt σ x1 = some q) : Ms yX3_beginAt M_X3_beginAt 181 181 [(2, (36 : Int)), (0, x1)] rho σ (some (0, q), rho, σ) := by
  refine Ms.of 0 (by decide +kernel) rfl (fun z => absurd z (by decide)) (fun _ _ _ => trivial) rfl rfl ?_
  unfold f_X3_beginAt at h
  show Ev M_X3_beginAt 181 181 _ 0 181 rho σ [(2, (36 : Int)), (0, x1)] []
  refine ev_iload_n dX3_beginAt_0 rfl ?_
  refine ev_if_lt (tgt := 21) dX3_beginAt_1 rfl h (fun cb h => ?_) (fun cb h => ?_)
  · refine ev_iconst dX3_beginAt_21 (by decide) ?_
    obtain rfl := Option.some.inj h
    exact ev_iret dX3_beginAt_22 rfl rfl
  refine ev_iload_n dX3_beginAt_4 rfl ?_
  refine ev_aload_n dX3_beginAt_5 rfl (by decide) ?_
  refine ev_getf (j := 6) (t := 0) (x := (σ (36 : Int) 6)) dX3_beginAt_6 cf_X3 wf_X3_30 sp36 (by decide) (by decide) rfl (by decide) rfl ?_
  refine ev_icmp_ge (tgt := 21) dX3_beginAt_9 rfl h (fun cb h => ?_) (fun cb h => ?_)
  · refine ev_iconst dX3_beginAt_21 (by decide) ?_
    obtain rfl := Option.some.inj h
    exact ev_iret dX3_beginAt_22 rfl rfl
  refine ev_aload_n dX3_beginAt_12 rfl (by decide) ?_
  refine ev_getf (j := 5) (t := 2) (x := (42 : Int)) dX3_beginAt_13 cf_X3 wf_X3_27 sp36 (by decide) (by decide) rfl (by decide) (rp36_5 _) ?_
  refine ev_iload_n dX3_beginAt_16 rfl ?_
  refine ev_iald dX3_beginAt_17 sp42 (by decide) (by decide) h (fun h => ?_)
  refine ev_goto (tgt := 22) dX3_beginAt_18 rfl ?_
  obtain rfl := Option.some.inj h
  exact ev_iret dX3_beginAt_22 rfl rfl
set_option maxHeartbeats 4000000 in
set_option maxRecDepth 20000 in
theorem c_X3_endAt {σ : Mem} {x1 : Int}  {q : Int} (h : f_X3_endAt σ x1 = some q) : Ms yX3_endAt M_X3_endAt 181 181 [(2, (36 : Int)), (0, x1)] rho σ (some (0, q), rho, σ) := by
  refine Ms.of 0 (by decide +kernel) rfl (fun z => absurd z (by decide)) (fun _ _ _ => trivial) rfl rfl ?_
  unfold f_X3_endAt at h
  show Ev M_X3_endAt 181 181 _ 0 181 rho σ [(2, (36 : Int)), (0, x1)] []
  refine ev_iload_n dX3_endAt_0 rfl ?_
  refine ev_if_lt (tgt := 33) dX3_endAt_1 rfl h (fun cb h => ?_) (fun cb h => ?_)
  · refine ev_iconst dX3_endAt_33 (by decide) ?_
    obtain rfl := Option.some.inj h
    exact ev_iret dX3_endAt_34 rfl rfl
  refine ev_iload_n dX3_endAt_4 rfl ?_
  refine ev_aload_n dX3_endAt_5 rfl (by decide) ?_
  refine ev_getf (j := 6) (t := 0) (x := (σ (36 : Int) 6)) dX3_endAt_6 cf_X3 wf_X3_30 sp36 (by decide) (by decide) rfl (by decide) rfl ?_
  refine ev_icmp_ge (tgt := 33) dX3_endAt_9 rfl h (fun cb h => ?_) (fun cb h => ?_)
  · refine ev_iconst dX3_endAt_33 (by decide) ?_
    obtain rfl := Option.some.inj h
    exact ev_iret dX3_endAt_34 rfl rfl
  refine ev_aload_n dX3_endAt_12 rfl (by decide) ?_
  refine ev_getf (j := 5) (t := 2) (x := (42 : Int)) dX3_endAt_13 cf_X3 wf_X3_27 sp36 (by decide) (by decide) rfl (by decide) (rp36_5 _) ?_
  refine ev_iload_n dX3_endAt_16 rfl ?_
  refine ev_iald dX3_endAt_17 sp42 (by decide) (by decide) h (fun h => ?_)
  refine ev_aload_n dX3_endAt_18 rfl (by decide) ?_
  refine ev_getf (j := 2) (t := 2) (x := (39 : Int)) dX3_endAt_19 cf_X3 wf_X3_18 sp36 (by decide) (by decide) rfl (by decide) (rp36_2 _) ?_
  refine ev_aload_n dX3_endAt_22 rfl (by decide) ?_
  refine ev_getf (j := 4) (t := 2) (x := (41 : Int)) dX3_endAt_23 cf_X3 wf_X3_24 sp36 (by decide) (by decide) rfl (by decide) (rp36_4 _) ?_
  refine ev_iload_n dX3_endAt_26 rfl ?_
  refine ev_iald dX3_endAt_27 sp41 (by decide) (by decide) h (fun h => ?_)
  refine ev_iald dX3_endAt_28 sp39 (by decide) (by decide) h (fun h => ?_)
  show Ev _ _ _ _ 29 _ _ _ _ _
  refine ev_iadd dX3_endAt_29 ?_
  refine ev_goto (tgt := 34) dX3_endAt_30 rfl ?_
  obtain rfl := Option.some.inj h
  exact ev_iret dX3_endAt_34 rfl rfl
def K_X8_put_37 (x0 x1 : Int) (r : Option V × Mem × Mem) : (Int × Mem) ⊕ ((Mem)) → Prop := Sum.elim (fun a => Ev M_X8_put 181 181 r 37 181 rho a.2 [(2, x0), (0, x1), (2, (36 : Int)), (9, 0), (0, a.1), (9, 0)] []) (fun e => Ev M_X8_put 181 181 r 105 181 rho e [(9, 0), (9, 0), (9, 0), (9, 0), (9, 0), (9, 0)] [])
set_option maxHeartbeats 4000000 in
set_option maxRecDepth 20000 in
theorem b_X8_put_37 (x0 x1 : Int) (hx0 : isW x0) {r : Option V × Mem × Mem} : ∀ a x, f_X8_put_37B x0 x1 a = some x → K_X8_put_37 x0 x1 r x → K_X8_put_37 x0 x1 r (.inl a) := by
  intro a x h K
  obtain ⟨x4, σ⟩ := a
  have h : f_X8_put_37C x0 x1 x4 σ = some x := h
  unfold f_X8_put_37C at h
  show Ev M_X8_put 181 181 r 37 181 rho σ [(2, x0), (0, x1), (2, (36 : Int)), (9, 0), (0, x4), (9, 0)] []
  refine ev_iload dX8_put_37 rfl ?_
  refine ev_aload_n dX8_put_39 rfl (by decide) ?_
  obtain ⟨v9, hc10, h⟩ := bind_of h
  refine ev_invV_v (k := (36 : Int)) (av := []) (st := [(0, x4)]) (v := (0, v9)) (τ := σ) dX8_put_40 ml_X8_47 mv_X3_count (T := TX3) (ci := 2) rfl sp36 (by decide) (by decide) rfl ⟨Nat.le_of_ble_eq_true rfl, Nat.le_of_ble_eq_true rfl⟩ (Nat.le_of_ble_eq_true rfl) (c_X3_count hc10) ?_
  refine ev_icmp_ge (tgt := 105) dX8_put_43 rfl h (fun cb h => ?_) (fun cb h => ?_)
  · obtain rfl := Option.some.inj h
    exact ev_sub (L2 := [(9, 0), (9, 0), (9, 0), (9, 0), (9, 0), (9, 0)]) K ⟨.inl rfl, .inl rfl, .inl rfl, .inl rfl, .inl rfl, .inl rfl, trivial⟩
  refine ev_iload dX8_put_46 rfl ?_
  refine ev_iconst dX8_put_48 (by decide) ?_
  refine ev_icmp_ge (tgt := 105) dX8_put_49 rfl h (fun cb h => ?_) (fun cb h => ?_)
  · obtain rfl := Option.some.inj h
    exact ev_sub (L2 := [(9, 0), (9, 0), (9, 0), (9, 0), (9, 0), (9, 0)]) K ⟨.inl rfl, .inl rfl, .inl rfl, .inl rfl, .inl rfl, .inl rfl, trivial⟩
  refine ev_iload_n dX8_put_52 rfl ?_
  refine ev_iconst dX8_put_53 (by decide) ?_
  refine ev_imul dX8_put_54 ?_
  refine ev_iload dX8_put_55 rfl ?_
  refine ev_iadd dX8_put_57 ?_
  refine ev_istoreG dX8_put_58 h rfl (by decide) (fun v11 h => ?_)
  show Ev _ _ _ _ 60 _ _ _ [(2, x0), (0, x1), (2, (36 : Int)), (9, 0), (0, x4), (0, v11)] _
  refine ev_aload_n dX8_put_60 rfl (pW hx0).1 ?_
  refine ev_getf (j := 6) (t := 2) (x := (x0 + 7)) dX8_put_61 cf_X8 wf_X8_32 (sW hx0) (pW hx0).1 (pW hx0).2 rfl (by decide) (rW6 _ hx0) ?_
  refine ev_iload dX8_put_64 rfl ?_
  refine ev_aload_n dX8_put_66 rfl (by decide) ?_
  refine ev_iload dX8_put_67 rfl ?_
  show Ev _ _ _ _ 69 _ _ _ _ _
  obtain ⟨v12, hc13, h⟩ := bind_of h
  refine ev_invV_v (k := (36 : Int)) (av := [(0, x4)]) (st := [(0, v11), (2, (x0 + 7))]) (v := (0, v12)) (τ := σ) dX8_put_69 ml_X8_56 mv_X3_paperAt (T := TX3) (ci := 2) rfl sp36 (by decide) (by decide) rfl ⟨Nat.le_of_ble_eq_true rfl, Nat.le_of_ble_eq_true rfl⟩ (Nat.le_of_ble_eq_true rfl) (c_X3_paperAt hc13) ?_
  refine ev_iastG dX8_put_72 (sW6 hx0) (pW6 hx0).1 (pW6 hx0).2 h (fun σ14 h => ?_)
  refine ev_aload_n dX8_put_73 rfl (pW hx0).1 ?_
  refine ev_getf (j := 7) (t := 2) (x := (x0 + 8)) dX8_put_74 cf_X8 wf_X8_35 (sW hx0) (pW hx0).1 (pW hx0).2 rfl (by decide) (rW7 _ hx0) ?_
  refine ev_iload dX8_put_77 rfl ?_
  refine ev_aload_n dX8_put_79 rfl (by decide) ?_
  refine ev_iload dX8_put_80 rfl ?_
  obtain ⟨v15, hc16, h⟩ := bind_of h
  refine ev_invV_v (k := (36 : Int)) (av := [(0, x4)]) (st := [(0, v11), (2, (x0 + 8))]) (v := (0, v15)) (τ := σ14) dX8_put_82 ml_X8_60 mv_X3_beginAt (T := TX3) (ci := 2) rfl sp36 (by decide) (by decide) rfl ⟨Nat.le_of_ble_eq_true rfl, Nat.le_of_ble_eq_true rfl⟩ (Nat.le_of_ble_eq_true rfl) (c_X3_beginAt hc16) ?_
  refine ev_iastG dX8_put_85 (sW7 hx0) (pW7 hx0).1 (pW7 hx0).2 h (fun σ17 h => ?_)
  refine ev_aload_n dX8_put_86 rfl (pW hx0).1 ?_
  refine ev_getf (j := 8) (t := 2) (x := (x0 + 9)) dX8_put_87 cf_X8 wf_X8_38 (sW hx0) (pW hx0).1 (pW hx0).2 rfl (by decide) (rW8 _ hx0) ?_
  refine ev_iload dX8_put_90 rfl ?_
  show Ev _ _ _ _ 92 _ _ _ _ _
  refine ev_aload_n dX8_put_92 rfl (by decide) ?_
  refine ev_iload dX8_put_93 rfl ?_
  obtain ⟨v18, hc19, h⟩ := bind_of h
  refine ev_invV_v (k := (36 : Int)) (av := [(0, x4)]) (st := [(0, v11), (2, (x0 + 9))]) (v := (0, v18)) (τ := σ17) dX8_put_95 ml_X8_63 mv_X3_endAt (T := TX3) (ci := 2) rfl sp36 (by decide) (by decide) rfl ⟨Nat.le_of_ble_eq_true rfl, Nat.le_of_ble_eq_true rfl⟩ (Nat.le_of_ble_eq_true rfl) (c_X3_endAt hc19) ?_
  refine ev_iastG dX8_put_98 (sW8 hx0) (pW8 hx0).1 (pW8 hx0).2 h (fun σ20 h => ?_)
  refine ev_iincG dX8_put_99 rfl h rfl (fun v21 h => ?_)
  show Ev _ _ _ _ 102 _ _ _ [(2, x0), (0, x1), (2, (36 : Int)), (9, 0), (0, v21), (0, v11)] _
  refine ev_goto (tgt := 37) dX8_put_102 rfl ?_
  obtain rfl := Option.some.inj h
  exact ev_sub (L2 := [(2, x0), (0, x1), (2, (36 : Int)), (9, 0), (0, v21), (9, 0)]) K ⟨.inr rfl, .inr rfl, .inr rfl, .inl rfl, .inr rfl, .inl rfl, trivial⟩
set_option maxHeartbeats 4000000 in
set_option maxRecDepth 20000 in
theorem e_X8_put_37 (σ : Mem) (x0 x1 x4 : Int) (hx0 : isW x0) {q : Mem} (h : f_X8_put_37 σ x0 x1 x4 = some q) : Ev M_X8_put 181 181 (none, rho, q) 37 181 rho σ [(2, x0), (0, x1), (2, (36 : Int)), (9, 0), (0, x4), (9, 0)] [] := by
  unfold f_X8_put_37 at h
  obtain ⟨e, hl, h⟩ := bind_of h
  refine loop_ev (K := K_X8_put_37 x0 x1 (none, rho, q)) (b_X8_put_37 x0 x1 hx0) FU (x4, σ) e hl ?_
  show Ev M_X8_put 181 181 _ 105 181 rho e [(9, 0), (9, 0), (9, 0), (9, 0), (9, 0), (9, 0)] []
  replace h : some e = some q := h
  obtain rfl := Option.some.inj h
  exact ev_vret dX8_put_105 rfl rfl
set_option maxHeartbeats 4000000 in
set_option maxRecDepth 20000 in
theorem c_X8_put {σ : Mem} {x0 x1 x3 : Int} (hx0 : isW x0) {q : Mem} (h : f_X8_put σ x0 x1 x3 = some q) : Ms yX8_put M_X8_put 181 181 [(2, x0), (0, x1), (2, (36 : Int)), (0, x3)] rho σ (none, rho, q) := by
  refine Ms.of 2 (by decide +kernel) rfl (fun z => absurd z (by decide)) (fun _ _ _ => trivial) rfl rfl ?_
  unfold f_X8_put at h
  show Ev M_X8_put 181 181 _ 0 181 rho σ [(2, x0), (0, x1), (2, (36 : Int)), (0, x3), (9, 0), (9, 0)] []
  refine ev_aload_n dX8_put_0 rfl (pW hx0).1 ?_
  refine ev_getf (j := 0) (t := 2) (x := (x0 + 1)) dX8_put_1 cf_X8 wf_X8_9 (sW hx0) (pW hx0).1 (pW hx0).2 rfl (by decide) (rW0 _ hx0) ?_
  refine ev_iload_n dX8_put_4 rfl ?_
  refine ev_iconst dX8_put_5 (by decide) ?_
  refine ev_zastG dX8_put_6 (sW0 hx0) (pW0 hx0).1 (pW0 hx0).2 h (fun σ1 h => ?_)
  refine ev_aload_n dX8_put_7 rfl (pW hx0).1 ?_
  refine ev_getf (j := 1) (t := 2) (x := (x0 + 2)) dX8_put_8 cf_X8 wf_X8_15 (sW hx0) (pW hx0).1 (pW hx0).2 rfl (by decide) (rW1 _ hx0) ?_
  refine ev_iload_n dX8_put_11 rfl ?_
  refine ev_iload_n dX8_put_12 rfl ?_
  refine ev_iastG dX8_put_13 (sW1 hx0) (pW1 hx0).1 (pW1 hx0).2 h (fun σ2 h => ?_)
  refine ev_aload_n dX8_put_14 rfl (pW hx0).1 ?_
  show Ev _ _ _ _ 15 _ _ _ _ _
  refine ev_getf (j := 4) (t := 2) (x := (x0 + 5)) dX8_put_15 cf_X8 wf_X8_25 (sW hx0) (pW hx0).1 (pW hx0).2 rfl (by decide) (rW4 _ hx0) ?_
  refine ev_iload_n dX8_put_18 rfl ?_
  refine ev_aload_n dX8_put_19 rfl (by decide) ?_
  obtain ⟨v3, hc4, h⟩ := bind_of h
  refine ev_invV_v (k := (36 : Int)) (av := []) (st := [(0, x1), (2, (x0 + 5))]) (v := (0, v3)) (τ := σ2) dX8_put_20 ml_X8_47 mv_X3_count (T := TX3) (ci := 2) rfl sp36 (by decide) (by decide) rfl ⟨Nat.le_of_ble_eq_true rfl, Nat.le_of_ble_eq_true rfl⟩ (Nat.le_of_ble_eq_true rfl) (c_X3_count hc4) ?_
  refine ev_iastG dX8_put_23 (sW4 hx0) (pW4 hx0).1 (pW4 hx0).2 h (fun σ5 h => ?_)
  refine ev_aload_n dX8_put_24 rfl (pW hx0).1 ?_
  refine ev_getf (j := 5) (t := 2) (x := (x0 + 6)) dX8_put_25 cf_X8 wf_X8_28 (sW hx0) (pW hx0).1 (pW hx0).2 rfl (by decide) (rW5 _ hx0) ?_
  refine ev_iload_n dX8_put_28 rfl ?_
  refine ev_aload_n dX8_put_29 rfl (by decide) ?_
  obtain ⟨v6, hc7, h⟩ := bind_of h
  refine ev_invV_v (k := (36 : Int)) (av := []) (st := [(0, x1), (2, (x0 + 6))]) (v := (1, v6)) (τ := σ5) dX8_put_30 ml_X8_52 mv_X3_keptSlots (T := TX3) (ci := 2) rfl sp36 (by decide) (by decide) rfl ⟨Nat.le_of_ble_eq_true rfl, Nat.le_of_ble_eq_true rfl⟩ (Nat.le_of_ble_eq_true rfl) (c_X3_keptSlots hc7) ?_
  refine ev_lastG dX8_put_33 (sW5 hx0) (pW5 hx0).1 (pW5 hx0).2 h (fun σ8 h => ?_)
  refine ev_iconst dX8_put_34 (by decide) ?_
  show Ev _ _ _ _ 35 _ _ _ _ _
  refine ev_istore dX8_put_35 rfl (by decide) ?_
  show Ev _ _ _ _ 37 _ _ _ [(2, x0), (0, x1), (2, (36 : Int)), (0, x3), (0, (0 : Int)), (9, 0)] _
  exact ev_sub (L2 := [(2, x0), (0, x1), (2, (36 : Int)), (9, 0), (0, (0 : Int)), (9, 0)]) (e_X8_put_37 σ8 x0 x1 (0 : Int) hx0 h) ⟨.inr rfl, .inr rfl, .inr rfl, .inl rfl, .inr rfl, .inl rfl, trivial⟩
set_option maxHeartbeats 4000000 in
set_option maxRecDepth 20000 in
theorem c_X3_least {σ : Mem}  {q : Int} (h : f_X3_least σ  = some q) : Ms yX3_least M_X3_least 181 181 [(2, (36 : Int))] rho σ (some (0, q), rho, σ) := by
  refine Ms.of 0 (by decide +kernel) rfl (fun z => absurd z (by decide)) (fun _ _ _ => trivial) rfl rfl ?_
  unfold f_X3_least at h
  show Ev M_X3_least 181 181 _ 0 181 rho σ [(2, (36 : Int))] []
  refine ev_aload_n dX3_least_0 rfl (by decide) ?_
  refine ev_getf (j := 13) (t := 0) (x := (σ (36 : Int) 13)) dX3_least_1 cf_X3 wf_X3_37 sp36 (by decide) (by decide) rfl (by decide) rfl ?_
  obtain rfl := Option.some.inj h
  exact ev_iret dX3_least_4 rfl rfl
def K_X4_planDay_131 (x1 x2 x3 x4 x6 x7 x8 : Int) (r : Option V × Mem × Mem) : (Int × Int × Mem) ⊕ ((Mem)) → Prop := Sum.elim (fun a => Ev M_X4_planDay 181 181 r 131 181 rho a.2.2 [(2, (35 : Int)), (2, x1), (0, x2), (0, x3), (2, x4), (9, 0), (0, x6), (0, x7), (0, x8), (0, a.1), (0, a.2.1), (9, 0)] []) (fun e => Ev M_X4_planDay 181 181 r 267 181 rho e [(9, 0), (9, 0), (9, 0), (9, 0), (9, 0), (9, 0), (9, 0), (9, 0), (9, 0), (9, 0), (9, 0), (9, 0)] [])
set_option maxHeartbeats 4000000 in
set_option maxRecDepth 20000 in
theorem e_X4_planDay_261 (σ : Mem) (x1 x2 x3 x4 x6 x7 x8 x9 x10 : Int) (hx1 : isB x1) (hx4 : isW x4) {q : ((Int × Int × Mem) ⊕ ((Mem)))} (h : f_X4_planDay_261 σ x1 x2 x3 x4 x6 x7 x8 x9 x10 = some q) {r : Option V × Mem × Mem} (K : K_X4_planDay_131 x1 x2 x3 x4 x6 x7 x8 r q) : Ev M_X4_planDay 181 181 r 261 181 rho σ [(2, (35 : Int)), (2, x1), (0, x2), (0, x3), (2, x4), (9, 0), (0, x6), (0, x7), (0, x8), (0, x9), (0, x10), (9, 0)] [] := by
  unfold f_X4_planDay_261 at h
  refine ev_iincG dX4_planDay_261 rfl h rfl (fun v31 h => ?_)
  show Ev _ _ _ _ 264 _ _ _ [(2, (35 : Int)), (2, x1), (0, x2), (0, x3), (2, x4), (9, 0), (0, x6), (0, x7), (0, x8), (0, x9), (0, v31), (9, 0)] _
  refine ev_goto (tgt := 131) dX4_planDay_264 rfl ?_
  obtain rfl := Option.some.inj h
  exact ev_sub (L2 := [(2, (35 : Int)), (2, x1), (0, x2), (0, x3), (2, x4), (9, 0), (0, x6), (0, x7), (0, x8), (0, x9), (0, v31), (9, 0)]) K ⟨.inr rfl, .inr rfl, .inr rfl, .inr rfl, .inr rfl, .inl rfl, .inr rfl, .inr rfl, .inr rfl, .inr rfl, .inr rfl, .inl rfl, trivial⟩
set_option maxHeartbeats 4000000 in
set_option maxRecDepth 20000 in
theorem e_X4_planDay_240 (σ : Mem) (x1 x2 x3 x4 x6 x7 x8 x10 : Int) (hx1 : isB x1) (hx4 : isW x4) {q : ((Int × Int × Mem) ⊕ ((Mem)))} (h : f_X4_planDay_240 σ x1 x2 x3 x4 x6 x7 x8 x10 = some q) {r : Option V × Mem × Mem} (K : K_X4_planDay_131 x1 x2 x3 x4 x6 x7 x8 r q) : Ev M_X4_planDay 181 181 r 240 181 rho σ [(2, (35 : Int)), (2, x1), (0, x2), (0, x3), (2, x4), (9, 0), (0, x6), (0, x7), (0, x8), (9, 0), (0, x10), (9, 0)] [] := by
  unfold f_X4_planDay_240 at h
  refine ev_aload_n dX4_planDay_240 rfl (by decide) ?_
  refine ev_getf (j := 0) (t := 2) (x := (36 : Int)) dX4_planDay_241 cf_X4 wf_X4_12 sp35 (by decide) (by decide) rfl (by decide) (rp35_0 _) ?_
  obtain ⟨v32, hc33, h⟩ := bind_of h
  refine ev_invV_v (k := (36 : Int)) (av := []) (st := []) (v := (0, v32)) (τ := σ) dX4_planDay_244 ml_X4_93 mv_X3_least (T := TX3) (ci := 2) rfl sp36 (by decide) (by decide) rfl ⟨Nat.le_of_ble_eq_true rfl, Nat.le_of_ble_eq_true rfl⟩ (Nat.le_of_ble_eq_true rfl) (c_X3_least hc33) ?_
  refine ev_istore dX4_planDay_247 rfl (by decide) ?_
  show Ev _ _ _ _ 249 _ _ _ [(2, (35 : Int)), (2, x1), (0, x2), (0, x3), (2, x4), (9, 0), (0, x6), (0, x7), (0, x8), (0, v32), (0, x10), (9, 0)] _
  refine ev_aload dX4_planDay_249 rfl (pW hx4).1 ?_
  refine ev_iload_n dX4_planDay_251 rfl ?_
  refine ev_aload_n dX4_planDay_252 rfl (by decide) ?_
  refine ev_getf (j := 0) (t := 2) (x := (36 : Int)) dX4_planDay_253 cf_X4 wf_X4_12 sp35 (by decide) (by decide) rfl (by decide) (rp35_0 _) ?_
  refine ev_iload dX4_planDay_256 rfl ?_
  obtain ⟨σ34, hc35, h⟩ := bind_of h
  refine ev_invV_n (k := x4) (av := [(0, x3), (2, (36 : Int)), (0, x10)]) (st := []) (τ := σ34) dX4_planDay_258 ml_X4_59 mv_X8_put (T := TX8) (ci := 7) rfl (sW hx4) (pW hx4).1 (pW hx4).2 rfl ⟨Nat.le_of_ble_eq_true rfl, Nat.le_of_ble_eq_true rfl⟩ (Nat.le_of_ble_eq_true rfl) (c_X8_put hx4 hc35) ?_
  exact ev_sub (L2 := [(2, (35 : Int)), (2, x1), (0, x2), (0, x3), (2, x4), (9, 0), (0, x6), (0, x7), (0, x8), (0, v32), (0, x10), (9, 0)]) (e_X4_planDay_261 σ34 x1 x2 x3 x4 x6 x7 x8 v32 x10 hx1 hx4 h K) ⟨.inr rfl, .inr rfl, .inr rfl, .inr rfl, .inr rfl, .inl rfl, .inr rfl, .inr rfl, .inr rfl, .inr rfl, .inr rfl, .inl rfl, trivial⟩
set_option maxHeartbeats 4000000 in
set_option maxRecDepth 20000 in
theorem b_X4_planDay_131 (x1 x2 x3 x4 x6 x7 x8 : Int) (hx1 : isB x1) (hx4 : isW x4) {r : Option V × Mem × Mem} : ∀ a x, f_X4_planDay_131B x1 x2 x3 x4 x6 x7 x8 a = some x → K_X4_planDay_131 x1 x2 x3 x4 x6 x7 x8 r x → K_X4_planDay_131 x1 x2 x3 x4 x6 x7 x8 r (.inl a) := by
  intro a x h K
  obtain ⟨x9, x10, σ⟩ := a
  have h : f_X4_planDay_131C x1 x2 x3 x4 x6 x7 x8 x9 x10 σ = some x := h
  unfold f_X4_planDay_131C at h
  show Ev M_X4_planDay 181 181 r 131 181 rho σ [(2, (35 : Int)), (2, x1), (0, x2), (0, x3), (2, x4), (9, 0), (0, x6), (0, x7), (0, x8), (0, x9), (0, x10), (9, 0)] []
  refine ev_iload dX4_planDay_131 rfl ?_
  refine ev_aload_n dX4_planDay_133 rfl (pB hx1).1 ?_
  refine ev_getf (j := 8) (t := 0) (x := (σ x1 8)) dX4_planDay_134 cf_X0 wf_X4_66 (sB hx1) (pB hx1).1 (pB hx1).2 rfl (by decide) rfl ?_
  refine ev_icmp_ge (tgt := 267) dX4_planDay_137 rfl h (fun cb h => ?_) (fun cb h => ?_)
  · obtain rfl := Option.some.inj h
    exact ev_sub (L2 := [(9, 0), (9, 0), (9, 0), (9, 0), (9, 0), (9, 0), (9, 0), (9, 0), (9, 0), (9, 0), (9, 0), (9, 0)]) K ⟨.inl rfl, .inl rfl, .inl rfl, .inl rfl, .inl rfl, .inl rfl, .inl rfl, .inl rfl, .inl rfl, .inl rfl, .inl rfl, .inl rfl, trivial⟩
  refine ev_iload dX4_planDay_140 rfl ?_
  refine ev_iload dX4_planDay_142 rfl ?_
  obtain ⟨v18, hc19, h⟩ := bind_of h
  refine ev_invSN_v (av := [(0, x8), (0, x10)]) (st := []) (v := (0, v18)) (τ := σ) dX4_planDay_144 ml_X4_70 mt_X10_hasBit rfl ⟨Nat.le_of_ble_eq_true rfl, Nat.le_of_ble_eq_true rfl⟩ (Nat.le_of_ble_eq_true rfl) (c_X10_hasBit hc19) ?_
  refine ev_if_eq (tgt := 261) dX4_planDay_147 rfl h (fun cb h => ?_) (fun cb h => ?_)
  · exact ev_sub (L2 := [(2, (35 : Int)), (2, x1), (0, x2), (0, x3), (2, x4), (9, 0), (0, x6), (0, x7), (0, x8), (0, x9), (0, x10), (9, 0)]) (e_X4_planDay_261 σ x1 x2 x3 x4 x6 x7 x8 x9 x10 hx1 hx4 h K) ⟨.inr rfl, .inr rfl, .inr rfl, .inr rfl, .inr rfl, .inl rfl, .inr rfl, .inr rfl, .inr rfl, .inr rfl, .inr rfl, .inl rfl, trivial⟩
  refine ev_aload_n dX4_planDay_150 rfl (pB hx1).1 ?_
  refine ev_iload_n dX4_planDay_151 rfl ?_
  refine ev_iload dX4_planDay_152 rfl ?_
  obtain ⟨v20, hc21, h⟩ := bind_of h
  refine ev_invV_v (k := x1) (av := [(0, x2), (0, x10)]) (st := []) (v := (0, v20)) (τ := σ) dX4_planDay_154 ml_X4_32 mv_X0_timeFor (T := TX0) (ci := 0) rfl (sB hx1) (pB hx1).1 (pB hx1).2 rfl ⟨Nat.le_of_ble_eq_true rfl, Nat.le_of_ble_eq_true rfl⟩ (Nat.le_of_ble_eq_true rfl) (c_X0_timeFor hx1 hc21) ?_
  refine ev_bipush dX4_planDay_157 (by decide) (by decide) ?_
  refine ev_aload_n dX4_planDay_159 rfl (pB hx1).1 ?_
  refine ev_getf (j := 11) (t := 0) (x := (σ x1 11)) dX4_planDay_160 cf_X0 wf_X4_74 (sB hx1) (pB hx1).1 (pB hx1).2 rfl (by decide) rfl ?_
  refine ev_mn dX4_planDay_163 wa_X4_77 wm_min (by decide) (Nat.le_of_ble_eq_true rfl) ?_
  refine ev_icmp_gt (tgt := 261) dX4_planDay_166 rfl h (fun cb h => ?_) (fun cb h => ?_)
  · exact ev_sub (L2 := [(2, (35 : Int)), (2, x1), (0, x2), (0, x3), (2, x4), (9, 0), (0, x6), (0, x7), (0, x8), (0, x9), (0, x10), (9, 0)]) (e_X4_planDay_261 σ x1 x2 x3 x4 x6 x7 x8 x9 x10 hx1 hx4 h K) ⟨.inr rfl, .inr rfl, .inr rfl, .inr rfl, .inr rfl, .inl rfl, .inr rfl, .inr rfl, .inr rfl, .inr rfl, .inr rfl, .inl rfl, trivial⟩
  refine ev_aload_n dX4_planDay_169 rfl (by decide) ?_
  refine ev_getf (j := 0) (t := 2) (x := (36 : Int)) dX4_planDay_170 cf_X4 wf_X4_12 sp35 (by decide) (by decide) rfl (by decide) (rp35_0 _) ?_
  refine ev_aload_n dX4_planDay_173 rfl (pB hx1).1 ?_
  refine ev_iload_n dX4_planDay_174 rfl ?_
  refine ev_iload dX4_planDay_175 rfl ?_
  refine ev_iconst dX4_planDay_177 (by decide) ?_
  refine ev_iload dX4_planDay_178 rfl ?_
  refine ev_ishl dX4_planDay_180 ?_
  refine ev_iconst dX4_planDay_181 (by decide) ?_
  refine ev_ixor dX4_planDay_182 ?_
  refine ev_iand dX4_planDay_183 ?_
  show Ev _ _ _ _ 184 _ _ _ _ _
  refine ev_iload dX4_planDay_184 rfl ?_
  refine ev_iload dX4_planDay_186 rfl ?_
  obtain ⟨σ22, hc23, h⟩ := bind_of h
  refine ev_invV_n (k := (36 : Int)) (av := [(2, x1), (0, x2), (0, (jand x8 (jxor (jshl (1 : Int) x10) (-1 : Int)))), (0, x7), (0, x6)]) (st := []) (τ := σ22) dX4_planDay_188 ml_X4_51 mv_X3_gather (T := TX3) (ci := 2) rfl sp36 (by decide) (by decide) rfl ⟨Nat.le_of_ble_eq_true rfl, Nat.le_of_ble_eq_true rfl⟩ (Nat.le_of_ble_eq_true rfl) (c_X3_gather hx1 hc23) ?_
  refine ev_aload_n dX4_planDay_191 rfl (by decide) ?_
  refine ev_getf (j := 0) (t := 2) (x := (36 : Int)) dX4_planDay_192 cf_X4 wf_X4_12 sp35 (by decide) (by decide) rfl (by decide) (rp35_0 _) ?_
  refine ev_iconst dX4_planDay_195 (by decide) ?_
  refine ev_aload_n dX4_planDay_196 rfl (pB hx1).1 ?_
  refine ev_getf (j := 1) (t := 2) (x := (x1 + 2)) dX4_planDay_197 cf_X0 wf_X4_82 (sB hx1) (pB hx1).1 (pB hx1).2 rfl (by decide) (rB1 _ hx1) ?_
  refine ev_iload dX4_planDay_200 rfl ?_
  refine ev_iald dX4_planDay_202 (sB1 hx1) (pB1 hx1).1 (pB1 hx1).2 h (fun h => ?_)
  refine ev_bipush dX4_planDay_203 (by decide) (by decide) ?_
  obtain ⟨v24, hc25, h⟩ := bind_of h
  refine ev_invSN_v (av := [(0, (σ22 (x1 + 2) x10)), (0, (48 : Int))]) (st := [(0, (0 : Int)), (2, (36 : Int))]) (v := (1, v24)) (τ := σ22) dX4_planDay_205 ml_X4_85 mt_X10_span rfl ⟨Nat.le_of_ble_eq_true rfl, Nat.le_of_ble_eq_true rfl⟩ (Nat.le_of_ble_eq_true rfl) (c_X10_span hc25) ?_
  show Ev _ _ _ _ 208 _ _ _ _ _
  obtain ⟨v26, hc27, h⟩ := bind_of h
  refine ev_invV_v (k := (36 : Int)) (av := [(0, (0 : Int)), (1, v24)]) (st := []) (v := (0, v26.1)) (τ := v26.2) dX4_planDay_208 ml_X4_55 mv_X3_search (T := TX3) (ci := 2) rfl sp36 (by decide) (by decide) rfl ⟨Nat.le_of_ble_eq_true rfl, Nat.le_of_ble_eq_true rfl⟩ (Nat.le_of_ble_eq_true rfl) (c_X3_search hc27) ?_
  refine ev_istoreG dX4_planDay_211 h rfl (by decide) (fun v28 h => ?_)
  show Ev _ _ _ _ 213 _ _ _ [(2, (35 : Int)), (2, x1), (0, x2), (0, x3), (2, x4), (9, 0), (0, x6), (0, x7), (0, x8), (0, x9), (0, x10), (0, v28)] _
  refine ev_iload dX4_planDay_213 rfl ?_
  refine ev_if_eq (tgt := 261) dX4_planDay_215 rfl h (fun cb h => ?_) (fun cb h => ?_)
  · exact ev_sub (L2 := [(2, (35 : Int)), (2, x1), (0, x2), (0, x3), (2, x4), (9, 0), (0, x6), (0, x7), (0, x8), (0, x9), (0, x10), (9, 0)]) (e_X4_planDay_261 v26.2 x1 x2 x3 x4 x6 x7 x8 x9 x10 hx1 hx4 h K) ⟨.inr rfl, .inr rfl, .inr rfl, .inr rfl, .inr rfl, .inl rfl, .inr rfl, .inr rfl, .inr rfl, .inr rfl, .inr rfl, .inl rfl, trivial⟩
  refine ev_aload dX4_planDay_218 rfl (pW hx4).1 ?_
  refine ev_getf (j := 0) (t := 2) (x := (x4 + 1)) dX4_planDay_220 cf_X8 wf_X4_89 (sW hx4) (pW hx4).1 (pW hx4).2 rfl (by decide) (rW0 _ hx4) ?_
  refine ev_iload_n dX4_planDay_223 rfl ?_
  refine ev_zald dX4_planDay_224 (sW0 hx4) (pW0 hx4).1 (pW0 hx4).2 h (fun h => ?_)
  refine ev_if_eq (tgt := 240) dX4_planDay_225 rfl h (fun cb h => ?_) (fun cb h => ?_)
  · exact ev_sub (L2 := [(2, (35 : Int)), (2, x1), (0, x2), (0, x3), (2, x4), (9, 0), (0, x6), (0, x7), (0, x8), (9, 0), (0, x10), (9, 0)]) (e_X4_planDay_240 v26.2 x1 x2 x3 x4 x6 x7 x8 x10 hx1 hx4 h K) ⟨.inr rfl, .inr rfl, .inr rfl, .inr rfl, .inr rfl, .inl rfl, .inr rfl, .inr rfl, .inr rfl, .inl rfl, .inr rfl, .inl rfl, trivial⟩
  refine ev_aload_n dX4_planDay_228 rfl (by decide) ?_
  refine ev_getf (j := 0) (t := 2) (x := (36 : Int)) dX4_planDay_229 cf_X4 wf_X4_12 sp35 (by decide) (by decide) rfl (by decide) (rp35_0 _) ?_
  obtain ⟨v29, hc30, h⟩ := bind_of h
  refine ev_invV_v (k := (36 : Int)) (av := []) (st := []) (v := (0, v29)) (τ := v26.2) dX4_planDay_232 ml_X4_93 mv_X3_least (T := TX3) (ci := 2) rfl sp36 (by decide) (by decide) rfl ⟨Nat.le_of_ble_eq_true rfl, Nat.le_of_ble_eq_true rfl⟩ (Nat.le_of_ble_eq_true rfl) (c_X3_least hc30) ?_
  refine ev_iload dX4_planDay_235 rfl ?_
  refine ev_icmp_ge (tgt := 261) dX4_planDay_237 rfl h (fun cb h => ?_) (fun cb h => ?_)
  · exact ev_sub (L2 := [(2, (35 : Int)), (2, x1), (0, x2), (0, x3), (2, x4), (9, 0), (0, x6), (0, x7), (0, x8), (0, x9), (0, x10), (9, 0)]) (e_X4_planDay_261 v26.2 x1 x2 x3 x4 x6 x7 x8 x9 x10 hx1 hx4 h K) ⟨.inr rfl, .inr rfl, .inr rfl, .inr rfl, .inr rfl, .inl rfl, .inr rfl, .inr rfl, .inr rfl, .inr rfl, .inr rfl, .inl rfl, trivial⟩
  exact ev_sub (L2 := [(2, (35 : Int)), (2, x1), (0, x2), (0, x3), (2, x4), (9, 0), (0, x6), (0, x7), (0, x8), (9, 0), (0, x10), (9, 0)]) (e_X4_planDay_240 v26.2 x1 x2 x3 x4 x6 x7 x8 x10 hx1 hx4 h K) ⟨.inr rfl, .inr rfl, .inr rfl, .inr rfl, .inr rfl, .inl rfl, .inr rfl, .inr rfl, .inr rfl, .inl rfl, .inr rfl, .inl rfl, trivial⟩
set_option maxHeartbeats 4000000 in
set_option maxRecDepth 20000 in
theorem e_X4_planDay_131 (σ : Mem) (x1 x2 x3 x4 x6 x7 x8 x9 x10 : Int) (hx1 : isB x1) (hx4 : isW x4) {q : Mem} (h : f_X4_planDay_131 σ x1 x2 x3 x4 x6 x7 x8 x9 x10 = some q) : Ev M_X4_planDay 181 181 (none, rho, q) 131 181 rho σ [(2, (35 : Int)), (2, x1), (0, x2), (0, x3), (2, x4), (9, 0), (0, x6), (0, x7), (0, x8), (0, x9), (0, x10), (9, 0)] [] := by
  unfold f_X4_planDay_131 at h
  obtain ⟨e, hl, h⟩ := bind_of h
  refine loop_ev (K := K_X4_planDay_131 x1 x2 x3 x4 x6 x7 x8 (none, rho, q)) (b_X4_planDay_131 x1 x2 x3 x4 x6 x7 x8 hx1 hx4) FU (x9, x10, σ) e hl ?_
  show Ev M_X4_planDay 181 181 _ 267 181 rho e [(9, 0), (9, 0), (9, 0), (9, 0), (9, 0), (9, 0), (9, 0), (9, 0), (9, 0), (9, 0), (9, 0), (9, 0)] []
  replace h : some e = some q := h
  obtain rfl := Option.some.inj h
  exact ev_vret dX4_planDay_267 rfl rfl
set_option maxHeartbeats 4000000 in
set_option maxRecDepth 20000 in
theorem e_X4_planDay_45 (σ : Mem) (x1 x2 x3 x4 x6 s0 : Int) (hx1 : isB x1) (hx4 : isW x4) {q : Mem} (h : f_X4_planDay_45 σ x1 x2 x3 x4 x6 s0 = some q) : Ev M_X4_planDay 181 181 (none, rho, q) 45 181 rho σ [(2, (35 : Int)), (2, x1), (0, x2), (0, x3), (2, x4), (9, 0), (0, x6), (9, 0), (9, 0), (9, 0), (9, 0), (9, 0)] [(0, s0)] := by
  unfold f_X4_planDay_45 at h
  refine ev_istore dX4_planDay_45 rfl (by decide) ?_
  show Ev _ _ _ _ 47 _ _ _ [(2, (35 : Int)), (2, x1), (0, x2), (0, x3), (2, x4), (9, 0), (0, x6), (0, s0), (9, 0), (9, 0), (9, 0), (9, 0)] _
  refine ev_aload dX4_planDay_47 rfl (pW hx4).1 ?_
  refine ev_iload_n dX4_planDay_49 rfl ?_
  refine ev_iload dX4_planDay_50 rfl ?_
  refine ev_iload dX4_planDay_52 rfl ?_
  obtain ⟨σ7, hc8, h⟩ := bind_of h
  refine ev_invV_n (k := x4) (av := [(0, x3), (0, s0), (0, x6)]) (st := []) (τ := σ7) dX4_planDay_54 ml_X4_41 mv_X8_open (T := TX8) (ci := 7) rfl (sW hx4) (pW hx4).1 (pW hx4).2 rfl ⟨Nat.le_of_ble_eq_true rfl, Nat.le_of_ble_eq_true rfl⟩ (Nat.le_of_ble_eq_true rfl) (c_X8_open hx4 hc8) ?_
  refine ev_aload_n dX4_planDay_57 rfl (pB hx1).1 ?_
  refine ev_getf (j := 6) (t := 2) (x := (x1 + 7)) dX4_planDay_58 cf_X0 wf_X4_45 (sB hx1) (pB hx1).1 (pB hx1).2 rfl (by decide) (rB6 _ hx1) ?_
  refine ev_iload_n dX4_planDay_61 rfl ?_
  refine ev_iald dX4_planDay_62 (sB6 hx1) (pB6 hx1).1 (pB6 hx1).2 h (fun h => ?_)
  refine ev_aload_n dX4_planDay_63 rfl (pB hx1).1 ?_
  show Ev _ _ _ _ 64 _ _ _ _ _
  refine ev_iload_n dX4_planDay_64 rfl ?_
  obtain ⟨v9, hc10, h⟩ := bind_of h
  refine ev_invV_v (k := x1) (av := [(0, x3)]) (st := [(0, (σ7 (x1 + 7) x2))]) (v := (0, v9)) (τ := σ7) dX4_planDay_65 ml_X4_48 mv_X0_papersOf (T := TX0) (ci := 0) rfl (sB hx1) (pB hx1).1 (pB hx1).2 rfl ⟨Nat.le_of_ble_eq_true rfl, Nat.le_of_ble_eq_true rfl⟩ (Nat.le_of_ble_eq_true rfl) (c_X0_papersOf hx1 hc10) ?_
  refine ev_iand dX4_planDay_68 ?_
  refine ev_istoreG dX4_planDay_69 h rfl (by decide) (fun v11 h => ?_)
  show Ev _ _ _ _ 71 _ _ _ [(2, (35 : Int)), (2, x1), (0, x2), (0, x3), (2, x4), (9, 0), (0, x6), (0, s0), (0, v11), (9, 0), (9, 0), (9, 0)] _
  refine ev_aload_n dX4_planDay_71 rfl (by decide) ?_
  refine ev_getf (j := 0) (t := 2) (x := (36 : Int)) dX4_planDay_72 cf_X4 wf_X4_12 sp35 (by decide) (by decide) rfl (by decide) (rp35_0 _) ?_
  refine ev_aload_n dX4_planDay_75 rfl (pB hx1).1 ?_
  refine ev_iload_n dX4_planDay_76 rfl ?_
  refine ev_iload dX4_planDay_77 rfl ?_
  refine ev_iload dX4_planDay_79 rfl ?_
  refine ev_iload dX4_planDay_81 rfl ?_
  obtain ⟨σ12, hc13, h⟩ := bind_of h
  refine ev_invV_n (k := (36 : Int)) (av := [(2, x1), (0, x2), (0, v11), (0, s0), (0, x6)]) (st := []) (τ := σ12) dX4_planDay_83 ml_X4_51 mv_X3_gather (T := TX3) (ci := 2) rfl sp36 (by decide) (by decide) rfl ⟨Nat.le_of_ble_eq_true rfl, Nat.le_of_ble_eq_true rfl⟩ (Nat.le_of_ble_eq_true rfl) (c_X3_gather hx1 hc13) ?_
  show Ev _ _ _ _ 86 _ _ _ _ _
  refine ev_aload_n dX4_planDay_86 rfl (by decide) ?_
  refine ev_getf (j := 0) (t := 2) (x := (36 : Int)) dX4_planDay_87 cf_X4 wf_X4_12 sp35 (by decide) (by decide) rfl (by decide) (rp35_0 _) ?_
  refine ev_iconst dX4_planDay_90 (by decide) ?_
  refine ev_lconst (x := (0 : Int)) dX4_planDay_91 (by decide) (by decide) ?_
  obtain ⟨v14, hc15, h⟩ := bind_of h
  refine ev_invV_v (k := (36 : Int)) (av := [(0, (0 : Int)), (1, (0 : Int))]) (st := []) (v := (0, v14.1)) (τ := v14.2) dX4_planDay_92 ml_X4_55 mv_X3_search (T := TX3) (ci := 2) rfl sp36 (by decide) (by decide) rfl ⟨Nat.le_of_ble_eq_true rfl, Nat.le_of_ble_eq_true rfl⟩ (Nat.le_of_ble_eq_true rfl) (c_X3_search hc15) ?_
  refine ev_if_eq (tgt := 110) dX4_planDay_95 rfl h (fun cb h => ?_) (fun cb h => ?_)
  · refine ev_aload_n dX4_planDay_110 rfl (pB hx1).1 ?_
    refine ev_getf (j := 5) (t := 2) (x := (x1 + 6)) dX4_planDay_111 cf_X0 wf_X4_63 (sB hx1) (pB hx1).1 (pB hx1).2 rfl (by decide) (rB5 _ hx1) ?_
    refine ev_iload_n dX4_planDay_114 rfl ?_
    refine ev_iald dX4_planDay_115 (sB5 hx1) (pB5 hx1).1 (pB5 hx1).2 h (fun h => ?_)
    refine ev_if_eq (tgt := 124) dX4_planDay_116 rfl h (fun cb h => ?_) (fun cb h => ?_)
    · obtain rfl := Option.some.inj h
      exact ev_vret dX4_planDay_124 rfl rfl
    refine ev_iload_n dX4_planDay_119 rfl ?_
    refine ev_iconst dX4_planDay_120 (by decide) ?_
    refine ev_icmp_ne (tgt := 125) dX4_planDay_121 rfl h (fun cb h => ?_) (fun cb h => ?_)
    · refine ev_iconst dX4_planDay_125 (by decide) ?_
      refine ev_istore dX4_planDay_126 rfl (by decide) ?_
      show Ev _ _ _ _ 128 _ _ _ [(2, (35 : Int)), (2, x1), (0, x2), (0, x3), (2, x4), (9, 0), (0, x6), (0, s0), (0, v11), (0, (0 : Int)), (9, 0), (9, 0)] _
      refine ev_iconst dX4_planDay_128 (by decide) ?_
      refine ev_istore dX4_planDay_129 rfl (by decide) ?_
      show Ev _ _ _ _ 131 _ _ _ [(2, (35 : Int)), (2, x1), (0, x2), (0, x3), (2, x4), (9, 0), (0, x6), (0, s0), (0, v11), (0, (0 : Int)), (0, (0 : Int)), (9, 0)] _
      exact ev_sub (L2 := [(2, (35 : Int)), (2, x1), (0, x2), (0, x3), (2, x4), (9, 0), (0, x6), (0, s0), (0, v11), (0, (0 : Int)), (0, (0 : Int)), (9, 0)]) (e_X4_planDay_131 v14.2 x1 x2 x3 x4 x6 s0 v11 (0 : Int) (0 : Int) hx1 hx4 h) ⟨.inr rfl, .inr rfl, .inr rfl, .inr rfl, .inr rfl, .inl rfl, .inr rfl, .inr rfl, .inr rfl, .inr rfl, .inr rfl, .inl rfl, trivial⟩
    obtain rfl := Option.some.inj h
    exact ev_vret dX4_planDay_124 rfl rfl
  refine ev_aload dX4_planDay_98 rfl (pW hx4).1 ?_
  refine ev_iload_n dX4_planDay_100 rfl ?_
  refine ev_aload_n dX4_planDay_101 rfl (by decide) ?_
  refine ev_getf (j := 0) (t := 2) (x := (36 : Int)) dX4_planDay_102 cf_X4 wf_X4_12 sp35 (by decide) (by decide) rfl (by decide) (rp35_0 _) ?_
  refine ev_iconst dX4_planDay_105 (by decide) ?_
  obtain ⟨σ16, hc17, h⟩ := bind_of h
  refine ev_invV_n (k := x4) (av := [(0, x3), (2, (36 : Int)), (0, (-1 : Int))]) (st := []) (τ := σ16) dX4_planDay_106 ml_X4_59 mv_X8_put (T := TX8) (ci := 7) rfl (sW hx4) (pW hx4).1 (pW hx4).2 rfl ⟨Nat.le_of_ble_eq_true rfl, Nat.le_of_ble_eq_true rfl⟩ (Nat.le_of_ble_eq_true rfl) (c_X8_put hx4 hc17) ?_
  obtain rfl := Option.some.inj h
  exact ev_vret dX4_planDay_109 rfl rfl
set_option maxHeartbeats 4000000 in
set_option maxRecDepth 20000 in
theorem e_X4_planDay_25 (σ : Mem) (x1 x2 x3 x4 x5 s0 : Int) (hx1 : isB x1) (hx4 : isW x4) {q : Mem} (h : f_X4_planDay_25 σ x1 x2 x3 x4 x5 s0 = some q) : Ev M_X4_planDay 181 181 (none, rho, q) 25 181 rho σ [(2, (35 : Int)), (2, x1), (0, x2), (0, x3), (2, x4), (0, x5), (9, 0), (9, 0), (9, 0), (9, 0), (9, 0), (9, 0)] [(0, s0)] := by
  unfold f_X4_planDay_25 at h
  refine ev_istore dX4_planDay_25 rfl (by decide) ?_
  show Ev _ _ _ _ 27 _ _ _ [(2, (35 : Int)), (2, x1), (0, x2), (0, x3), (2, x4), (0, x5), (0, s0), (9, 0), (9, 0), (9, 0), (9, 0), (9, 0)] _
  refine ev_iload dX4_planDay_27 rfl ?_
  refine ev_iconst dX4_planDay_29 (by decide) ?_
  refine ev_icmp_ne (tgt := 37) dX4_planDay_30 rfl h (fun cb h => ?_) (fun cb h => ?_)
  · refine ev_iload dX4_planDay_37 rfl ?_
    refine ev_aload_n dX4_planDay_39 rfl (pB hx1).1 ?_
    refine ev_iload_n dX4_planDay_40 rfl ?_
    obtain ⟨v5, hc6, h⟩ := bind_of h
    refine ev_invV_v (k := x1) (av := [(0, x2)]) (st := [(0, s0)]) (v := (0, v5)) (τ := σ) dX4_planDay_41 ml_X4_38 mv_X0_restFor (T := TX0) (ci := 0) rfl (sB hx1) (pB hx1).1 (pB hx1).2 rfl ⟨Nat.le_of_ble_eq_true rfl, Nat.le_of_ble_eq_true rfl⟩ (Nat.le_of_ble_eq_true rfl) (c_X0_restFor hx1 hc6) ?_
    refine ev_iadd dX4_planDay_44 ?_
    exact ev_sub (L2 := [(2, (35 : Int)), (2, x1), (0, x2), (0, x3), (2, x4), (9, 0), (0, s0), (9, 0), (9, 0), (9, 0), (9, 0), (9, 0)]) (e_X4_planDay_45 σ x1 x2 x3 x4 s0 (jadd s0 v5) hx1 hx4 h) ⟨.inr rfl, .inr rfl, .inr rfl, .inr rfl, .inr rfl, .inl rfl, .inr rfl, .inl rfl, .inl rfl, .inl rfl, .inl rfl, .inl rfl, trivial⟩
  refine ev_iconst dX4_planDay_33 (by decide) ?_
  refine ev_goto (tgt := 45) dX4_planDay_34 rfl ?_
  exact ev_sub (L2 := [(2, (35 : Int)), (2, x1), (0, x2), (0, x3), (2, x4), (9, 0), (0, s0), (9, 0), (9, 0), (9, 0), (9, 0), (9, 0)]) (e_X4_planDay_45 σ x1 x2 x3 x4 s0 (0 : Int) hx1 hx4 h) ⟨.inr rfl, .inr rfl, .inr rfl, .inr rfl, .inr rfl, .inl rfl, .inr rfl, .inl rfl, .inl rfl, .inl rfl, .inl rfl, .inl rfl, trivial⟩
set_option maxHeartbeats 4000000 in
set_option maxRecDepth 20000 in
theorem c_X4_planDay {σ : Mem} {x1 x2 x3 x4 : Int} (hx1 : isB x1) (hx4 : isW x4) {q : Mem} (h : f_X4_planDay σ x1 x2 x3 x4 = some q) : Ms yX4_planDay M_X4_planDay 181 181 [(2, (35 : Int)), (2, x1), (0, x2), (0, x3), (2, x4)] rho σ (none, rho, q) := by
  refine Ms.of 7 (by decide +kernel) rfl (fun z => absurd z (by decide)) (fun _ _ _ => trivial) rfl rfl ?_
  unfold f_X4_planDay at h
  show Ev M_X4_planDay 181 181 _ 0 181 rho σ [(2, (35 : Int)), (2, x1), (0, x2), (0, x3), (2, x4), (9, 0), (9, 0), (9, 0), (9, 0), (9, 0), (9, 0), (9, 0)] []
  refine ev_aload dX4_planDay_0 rfl (pW hx4).1 ?_
  refine ev_iload_n dX4_planDay_2 rfl ?_
  obtain ⟨v1, hc2, h⟩ := bind_of h
  refine ev_invV_v (k := x4) (av := [(0, x3)]) (st := []) (v := (0, v1)) (τ := σ) dX4_planDay_3 ml_X4_28 mv_X8_cameTo (T := TX8) (ci := 7) rfl (sW hx4) (pW hx4).1 (pW hx4).2 rfl ⟨Nat.le_of_ble_eq_true rfl, Nat.le_of_ble_eq_true rfl⟩ (Nat.le_of_ble_eq_true rfl) (c_X8_cameTo hx4 hc2) ?_
  refine ev_istore dX4_planDay_6 rfl (by decide) ?_
  show Ev _ _ _ _ 8 _ _ _ [(2, (35 : Int)), (2, x1), (0, x2), (0, x3), (2, x4), (0, v1), (9, 0), (9, 0), (9, 0), (9, 0), (9, 0), (9, 0)] _
  refine ev_iload dX4_planDay_8 rfl ?_
  refine ev_iconst dX4_planDay_10 (by decide) ?_
  refine ev_icmp_ne (tgt := 18) dX4_planDay_11 rfl h (fun cb h => ?_) (fun cb h => ?_)
  · refine ev_aload_n dX4_planDay_18 rfl (pB hx1).1 ?_
    refine ev_iload_n dX4_planDay_19 rfl ?_
    refine ev_iload dX4_planDay_20 rfl ?_
    obtain ⟨v3, hc4, h⟩ := bind_of h
    refine ev_invV_v (k := x1) (av := [(0, x2), (0, v1)]) (st := []) (v := (0, v3)) (τ := σ) dX4_planDay_22 ml_X4_32 mv_X0_timeFor (T := TX0) (ci := 0) rfl (sB hx1) (pB hx1).1 (pB hx1).2 rfl ⟨Nat.le_of_ble_eq_true rfl, Nat.le_of_ble_eq_true rfl⟩ (Nat.le_of_ble_eq_true rfl) (c_X0_timeFor hx1 hc4) ?_
    exact ev_sub (L2 := [(2, (35 : Int)), (2, x1), (0, x2), (0, x3), (2, x4), (0, v1), (9, 0), (9, 0), (9, 0), (9, 0), (9, 0), (9, 0)]) (e_X4_planDay_25 σ x1 x2 x3 x4 v1 v3 hx1 hx4 h) ⟨.inr rfl, .inr rfl, .inr rfl, .inr rfl, .inr rfl, .inr rfl, .inl rfl, .inl rfl, .inl rfl, .inl rfl, .inl rfl, .inl rfl, trivial⟩
  refine ev_iconst dX4_planDay_14 (by decide) ?_
  refine ev_goto (tgt := 25) dX4_planDay_15 rfl ?_
  exact ev_sub (L2 := [(2, (35 : Int)), (2, x1), (0, x2), (0, x3), (2, x4), (0, v1), (9, 0), (9, 0), (9, 0), (9, 0), (9, 0), (9, 0)]) (e_X4_planDay_25 σ x1 x2 x3 x4 v1 (0 : Int) hx1 hx4 h) ⟨.inr rfl, .inr rfl, .inr rfl, .inr rfl, .inr rfl, .inr rfl, .inl rfl, .inl rfl, .inl rfl, .inl rfl, .inl rfl, .inl rfl, trivial⟩
def K_Y3_gather_44 (x1 x2 x3 : Int) (r : Option V × Mem × Mem) : (Int × Mem) ⊕ ((Mem)) → Prop := Sum.elim (fun a => Ev M_X3_gather 181 181 r 44 181 rho a.2 [(2, (45 : Int)), (2, x1), (0, x2), (0, x3), (9, 0), (9, 0), (0, a.1)] []) (fun e => Ev M_X3_gather 181 181 r 147 181 rho e [(9, 0), (9, 0), (9, 0), (9, 0), (9, 0), (9, 0), (9, 0)] [])
set_option maxHeartbeats 4000000 in
set_option maxRecDepth 20000 in
theorem e_Y3_gather_141 (σ : Mem) (x1 x2 x3 x6 : Int) (hx1 : isB x1) {q : ((Int × Mem) ⊕ ((Mem)))} (h : f_Y3_gather_141 σ x1 x2 x3 x6 = some q) {r : Option V × Mem × Mem} (K : K_Y3_gather_44 x1 x2 x3 r q) : Ev M_X3_gather 181 181 r 141 181 rho σ [(2, (45 : Int)), (2, x1), (0, x2), (0, x3), (9, 0), (9, 0), (0, x6)] [] := by
  unfold f_Y3_gather_141 at h
  refine ev_iincG dX3_gather_141 rfl h rfl (fun v19 h => ?_)
  show Ev _ _ _ _ 144 _ _ _ [(2, (45 : Int)), (2, x1), (0, x2), (0, x3), (9, 0), (9, 0), (0, v19)] _
  refine ev_goto (tgt := 44) dX3_gather_144 rfl ?_
  obtain rfl := Option.some.inj h
  exact ev_sub (L2 := [(2, (45 : Int)), (2, x1), (0, x2), (0, x3), (9, 0), (9, 0), (0, v19)]) K ⟨.inr rfl, .inr rfl, .inr rfl, .inr rfl, .inl rfl, .inl rfl, .inr rfl, trivial⟩
set_option maxHeartbeats 4000000 in
set_option maxRecDepth 20000 in
theorem b_Y3_gather_44 (x1 x2 x3 : Int) (hx1 : isB x1) {r : Option V × Mem × Mem} : ∀ a x, f_Y3_gather_44B x1 x2 x3 a = some x → K_Y3_gather_44 x1 x2 x3 r x → K_Y3_gather_44 x1 x2 x3 r (.inl a) := by
  intro a x h K
  obtain ⟨x6, σ⟩ := a
  have h : f_Y3_gather_44C x1 x2 x3 x6 σ = some x := h
  unfold f_Y3_gather_44C at h
  show Ev M_X3_gather 181 181 r 44 181 rho σ [(2, (45 : Int)), (2, x1), (0, x2), (0, x3), (9, 0), (9, 0), (0, x6)] []
  refine ev_iload dX3_gather_44 rfl ?_
  refine ev_aload_n dX3_gather_46 rfl (pB hx1).1 ?_
  refine ev_getf (j := 8) (t := 0) (x := (σ x1 8)) dX3_gather_47 cf_X0 wf_X3_69 (sB hx1) (pB hx1).1 (pB hx1).2 rfl (by decide) rfl ?_
  refine ev_icmp_ge (tgt := 147) dX3_gather_50 rfl h (fun cb h => ?_) (fun cb h => ?_)
  · obtain rfl := Option.some.inj h
    exact ev_sub (L2 := [(9, 0), (9, 0), (9, 0), (9, 0), (9, 0), (9, 0), (9, 0)]) K ⟨.inl rfl, .inl rfl, .inl rfl, .inl rfl, .inl rfl, .inl rfl, .inl rfl, trivial⟩
  refine ev_iload_n dX3_gather_53 rfl ?_
  refine ev_iload dX3_gather_54 rfl ?_
  obtain ⟨v10, hc11, h⟩ := bind_of h
  refine ev_invSN_v (av := [(0, x3), (0, x6)]) (st := []) (v := (0, v10)) (τ := σ) dX3_gather_56 ml_X3_72 mt_X10_hasBit rfl ⟨Nat.le_of_ble_eq_true rfl, Nat.le_of_ble_eq_true rfl⟩ (Nat.le_of_ble_eq_true rfl) (c_X10_hasBit hc11) ?_
  refine ev_if_eq (tgt := 141) dX3_gather_59 rfl h (fun cb h => ?_) (fun cb h => ?_)
  · exact ev_sub (L2 := [(2, (45 : Int)), (2, x1), (0, x2), (0, x3), (9, 0), (9, 0), (0, x6)]) (e_Y3_gather_141 σ x1 x2 x3 x6 hx1 h K) ⟨.inr rfl, .inr rfl, .inr rfl, .inr rfl, .inl rfl, .inl rfl, .inr rfl, trivial⟩
  refine ev_aload_n dX3_gather_62 rfl (by decide) ?_
  refine ev_getf (j := 6) (t := 0) (x := (σ (45 : Int) 6)) dX3_gather_63 cf_X3 wf_X3_30 sp45 (by decide) (by decide) rfl (by decide) rfl ?_
  refine ev_iconst dX3_gather_66 (by decide) ?_
  refine ev_icmp_ge (tgt := 141) dX3_gather_67 rfl h (fun cb h => ?_) (fun cb h => ?_)
  · exact ev_sub (L2 := [(2, (45 : Int)), (2, x1), (0, x2), (0, x3), (9, 0), (9, 0), (0, x6)]) (e_Y3_gather_141 σ x1 x2 x3 x6 hx1 h K) ⟨.inr rfl, .inr rfl, .inr rfl, .inr rfl, .inl rfl, .inl rfl, .inr rfl, trivial⟩
  refine ev_aload_n dX3_gather_70 rfl (by decide) ?_
  refine ev_getf (j := 0) (t := 2) (x := (46 : Int)) dX3_gather_71 cf_X3 wf_X3_9 sp45 (by decide) (by decide) rfl (by decide) (rp45_0 _) ?_
  refine ev_aload_n dX3_gather_74 rfl (by decide) ?_
  refine ev_getf (j := 6) (t := 0) (x := (σ (45 : Int) 6)) dX3_gather_75 cf_X3 wf_X3_30 sp45 (by decide) (by decide) rfl (by decide) rfl ?_
  refine ev_iload dX3_gather_78 rfl ?_
  refine ev_iastG dX3_gather_80 sp46 (by decide) (by decide) h (fun σ12 h => ?_)
  refine ev_aload_n dX3_gather_81 rfl (by decide) ?_
  refine ev_getf (j := 1) (t := 2) (x := (47 : Int)) dX3_gather_82 cf_X3 wf_X3_15 sp45 (by decide) (by decide) rfl (by decide) (rp45_1 _) ?_
  refine ev_aload_n dX3_gather_85 rfl (by decide) ?_
  refine ev_getf (j := 6) (t := 0) (x := (σ12 (45 : Int) 6)) dX3_gather_86 cf_X3 wf_X3_30 sp45 (by decide) (by decide) rfl (by decide) rfl ?_
  refine ev_aload_n dX3_gather_89 rfl (pB hx1).1 ?_
  show Ev _ _ _ _ 90 _ _ _ _ _
  refine ev_getf (j := 1) (t := 2) (x := (x1 + 2)) dX3_gather_90 cf_X0 wf_X3_76 (sB hx1) (pB hx1).1 (pB hx1).2 rfl (by decide) (rB1 _ hx1) ?_
  refine ev_iload dX3_gather_93 rfl ?_
  refine ev_iald dX3_gather_95 (sB1 hx1) (pB1 hx1).1 (pB1 hx1).2 h (fun h => ?_)
  refine ev_iastG dX3_gather_96 sp47 (by decide) (by decide) h (fun σ13 h => ?_)
  refine ev_aload_n dX3_gather_97 rfl (by decide) ?_
  refine ev_getf (j := 2) (t := 2) (x := (48 : Int)) dX3_gather_98 cf_X3 wf_X3_18 sp45 (by decide) (by decide) rfl (by decide) (rp45_2 _) ?_
  refine ev_aload_n dX3_gather_101 rfl (by decide) ?_
  refine ev_getf (j := 6) (t := 0) (x := (σ13 (45 : Int) 6)) dX3_gather_102 cf_X3 wf_X3_30 sp45 (by decide) (by decide) rfl (by decide) rfl ?_
  refine ev_aload_n dX3_gather_105 rfl (pB hx1).1 ?_
  refine ev_iload_n dX3_gather_106 rfl ?_
  refine ev_iload dX3_gather_107 rfl ?_
  obtain ⟨v14, hc15, h⟩ := bind_of h
  refine ev_invV_v (k := x1) (av := [(0, x2), (0, x6)]) (st := [(0, (σ13 (45 : Int) 6)), (2, (48 : Int))]) (v := (0, v14)) (τ := σ13) dX3_gather_109 ml_X3_79 mv_X0_timeFor (T := TX0) (ci := 0) rfl (sB hx1) (pB hx1).1 (pB hx1).2 rfl ⟨Nat.le_of_ble_eq_true rfl, Nat.le_of_ble_eq_true rfl⟩ (Nat.le_of_ble_eq_true rfl) (c_X0_timeFor hx1 hc15) ?_
  show Ev _ _ _ _ 112 _ _ _ _ _
  refine ev_iastG dX3_gather_112 sp48 (by decide) (by decide) h (fun σ16 h => ?_)
  refine ev_aload_n dX3_gather_113 rfl (by decide) ?_
  refine ev_dup dX3_gather_114 (show (2 : Nat) ≠ 1 by decide) ?_
  refine ev_getf (j := 9) (t := 0) (x := (σ16 (45 : Int) 9)) dX3_gather_115 cf_X3 wf_X3_59 sp45 (by decide) (by decide) rfl (by decide) rfl ?_
  refine ev_aload_n dX3_gather_118 rfl (by decide) ?_
  refine ev_getf (j := 2) (t := 2) (x := (48 : Int)) dX3_gather_119 cf_X3 wf_X3_18 sp45 (by decide) (by decide) rfl (by decide) (rp45_2 _) ?_
  refine ev_aload_n dX3_gather_122 rfl (by decide) ?_
  refine ev_getf (j := 6) (t := 0) (x := (σ16 (45 : Int) 6)) dX3_gather_123 cf_X3 wf_X3_30 sp45 (by decide) (by decide) rfl (by decide) rfl ?_
  refine ev_iald dX3_gather_126 sp48 (by decide) (by decide) h (fun h => ?_)
  refine ev_isub dX3_gather_127 ?_
  refine ev_putfG (j := 9) (t := 0) dX3_gather_128 cf_X3 wf_X3_59 sp45 (by decide) (by decide) rfl (by decide) (by decide) rfl (fun z => absurd z (by decide +kernel)) h (fun σ17 h => ?_)
  refine ev_aload_n dX3_gather_131 rfl (by decide) ?_
  show Ev _ _ _ _ 132 _ _ _ _ _
  refine ev_dup dX3_gather_132 (show (2 : Nat) ≠ 1 by decide) ?_
  refine ev_getf (j := 6) (t := 0) (x := (σ17 (45 : Int) 6)) dX3_gather_133 cf_X3 wf_X3_30 sp45 (by decide) (by decide) rfl (by decide) rfl ?_
  refine ev_iconst dX3_gather_136 (by decide) ?_
  refine ev_iadd dX3_gather_137 ?_
  refine ev_putfG (j := 6) (t := 0) dX3_gather_138 cf_X3 wf_X3_30 sp45 (by decide) (by decide) rfl (by decide) (by decide) rfl (fun z => absurd z (by decide +kernel)) h (fun σ18 h => ?_)
  exact ev_sub (L2 := [(2, (45 : Int)), (2, x1), (0, x2), (0, x3), (9, 0), (9, 0), (0, x6)]) (e_Y3_gather_141 σ18 x1 x2 x3 x6 hx1 h K) ⟨.inr rfl, .inr rfl, .inr rfl, .inr rfl, .inl rfl, .inl rfl, .inr rfl, trivial⟩
set_option maxHeartbeats 4000000 in
set_option maxRecDepth 20000 in
theorem e_Y3_gather_44 (σ : Mem) (x1 x2 x3 x6 : Int) (hx1 : isB x1) {q : Mem} (h : f_Y3_gather_44 σ x1 x2 x3 x6 = some q) : Ev M_X3_gather 181 181 (none, rho, q) 44 181 rho σ [(2, (45 : Int)), (2, x1), (0, x2), (0, x3), (9, 0), (9, 0), (0, x6)] [] := by
  unfold f_Y3_gather_44 at h
  obtain ⟨e, hl, h⟩ := bind_of h
  refine loop_ev (K := K_Y3_gather_44 x1 x2 x3 (none, rho, q)) (b_Y3_gather_44 x1 x2 x3 hx1) FU (x6, σ) e hl ?_
  show Ev M_X3_gather 181 181 _ 147 181 rho e [(9, 0), (9, 0), (9, 0), (9, 0), (9, 0), (9, 0), (9, 0)] []
  replace h : some e = some q := h
  obtain rfl := Option.some.inj h
  exact ev_vret dX3_gather_147 rfl rfl
set_option maxHeartbeats 4000000 in
set_option maxRecDepth 20000 in
theorem c_Y3_gather {σ : Mem} {x1 x2 x3 x4 x5 : Int} (hx1 : isB x1) {q : Mem} (h : f_Y3_gather σ x1 x2 x3 x4 x5 = some q) : Ms yX3_gather M_X3_gather 181 181 [(2, (45 : Int)), (2, x1), (0, x2), (0, x3), (0, x4), (0, x5)] rho σ (none, rho, q) := by
  refine Ms.of 1 (by decide +kernel) rfl (fun z => absurd z (by decide)) (fun _ _ _ => trivial) rfl rfl ?_
  unfold f_Y3_gather at h
  show Ev M_X3_gather 181 181 _ 0 181 rho σ [(2, (45 : Int)), (2, x1), (0, x2), (0, x3), (0, x4), (0, x5), (9, 0)] []
  refine ev_aload_n dX3_gather_0 rfl (by decide) ?_
  refine ev_iconst dX3_gather_1 (by decide) ?_
  refine ev_putfG (j := 6) (t := 0) dX3_gather_2 cf_X3 wf_X3_30 sp45 (by decide) (by decide) rfl (by decide) (by decide) rfl (fun z => absurd z (by decide +kernel)) h (fun σ1 h => ?_)
  refine ev_aload_n dX3_gather_5 rfl (by decide) ?_
  refine ev_aload_n dX3_gather_6 rfl (pB hx1).1 ?_
  refine ev_iload_n dX3_gather_7 rfl ?_
  obtain ⟨v2, hc3, h⟩ := bind_of h
  refine ev_invV_v (k := x1) (av := [(0, x2)]) (st := [(2, (45 : Int))]) (v := (0, v2)) (τ := σ1) dX3_gather_8 ml_X3_44 mv_X0_restFor (T := TX0) (ci := 0) rfl (sB hx1) (pB hx1).1 (pB hx1).2 rfl ⟨Nat.le_of_ble_eq_true rfl, Nat.le_of_ble_eq_true rfl⟩ (Nat.le_of_ble_eq_true rfl) (c_X0_restFor hx1 hc3) ?_
  refine ev_putfG (j := 7) (t := 0) dX3_gather_11 cf_X3 wf_X3_50 sp45 (by decide) (by decide) rfl (by decide) (by decide) rfl (fun z => absurd z (by decide +kernel)) h (fun σ4 h => ?_)
  refine ev_aload_n dX3_gather_14 rfl (by decide) ?_
  refine ev_iload dX3_gather_15 rfl ?_
  refine ev_putfG (j := 8) (t := 0) dX3_gather_17 cf_X3 wf_X3_53 sp45 (by decide) (by decide) rfl (by decide) (by decide) rfl (fun z => absurd z (by decide +kernel)) h (fun σ5 h => ?_)
  show Ev _ _ _ _ 20 _ _ _ _ _
  refine ev_aload_n dX3_gather_20 rfl (by decide) ?_
  refine ev_aload_n dX3_gather_21 rfl (pB hx1).1 ?_
  refine ev_getf (j := 11) (t := 0) (x := (σ5 x1 11)) dX3_gather_22 cf_X0 wf_X3_56 (sB hx1) (pB hx1).1 (pB hx1).2 rfl (by decide) rfl ?_
  refine ev_iload dX3_gather_25 rfl ?_
  refine ev_isub dX3_gather_27 ?_
  refine ev_putfG (j := 9) (t := 0) dX3_gather_28 cf_X3 wf_X3_59 sp45 (by decide) (by decide) rfl (by decide) (by decide) rfl (fun z => absurd z (by decide +kernel)) h (fun σ6 h => ?_)
  refine ev_aload_n dX3_gather_31 rfl (by decide) ?_
  refine ev_iconst dX3_gather_32 (by decide) ?_
  refine ev_iload dX3_gather_33 rfl ?_
  obtain ⟨v7, hc8, h⟩ := bind_of h
  refine ev_invSN_v (av := [(0, (0 : Int)), (0, x5)]) (st := [(2, (45 : Int))]) (v := (1, v7)) (τ := σ6) dX3_gather_35 ml_X3_62 mt_X10_span rfl ⟨Nat.le_of_ble_eq_true rfl, Nat.le_of_ble_eq_true rfl⟩ (Nat.le_of_ble_eq_true rfl) (c_X10_span hc8) ?_
  refine ev_putfG (j := 10) (t := 1) dX3_gather_38 cf_X3 wf_X3_66 sp45 (by decide) (by decide) rfl (by decide) (by decide) rfl (fun z => absurd z (by decide +kernel)) h (fun σ9 h => ?_)
  refine ev_iconst dX3_gather_41 (by decide) ?_
  show Ev _ _ _ _ 42 _ _ _ _ _
  refine ev_istore dX3_gather_42 rfl (by decide) ?_
  show Ev _ _ _ _ 44 _ _ _ [(2, (45 : Int)), (2, x1), (0, x2), (0, x3), (0, x4), (0, x5), (0, (0 : Int))] _
  exact ev_sub (L2 := [(2, (45 : Int)), (2, x1), (0, x2), (0, x3), (9, 0), (9, 0), (0, (0 : Int))]) (e_Y3_gather_44 σ9 x1 x2 x3 (0 : Int) hx1 h) ⟨.inr rfl, .inr rfl, .inr rfl, .inr rfl, .inl rfl, .inl rfl, .inr rfl, trivial⟩
def K_Y3_walk_18 (x1 : Int) (r : Option V × Mem × Mem) : (Int × Int × Int × Int × Mem) ⊕ ((Mem) ⊕ (Int × Int × Mem)) → Prop := Sum.elim (fun a => Ev M_X3_walk 181 181 r 18 181 rho a.2.2.2.2 [(2, (45 : Int)), (2, x1), (9, 0), (9, 0), (1, a.1), (9, 0), (1, a.2.1), (9, 0), (0, a.2.2.1), (0, a.2.2.2.1), (9, 0), (9, 0), (9, 0)] []) (Sum.elim (fun e => Ev M_X3_walk 181 181 r 66 181 rho e [(9, 0), (9, 0), (9, 0), (9, 0), (9, 0), (9, 0), (9, 0), (9, 0), (9, 0), (9, 0), (9, 0), (9, 0), (9, 0)] []) (fun e => Ev M_X3_walk 181 181 r 121 181 rho e.2.2 [(2, (45 : Int)), (9, 0), (9, 0), (9, 0), (1, e.1), (9, 0), (1, e.2.1), (9, 0), (9, 0), (9, 0), (9, 0), (9, 0), (9, 0)] []))
set_option maxHeartbeats 4000000 in
set_option maxRecDepth 20000 in
theorem e_Y3_walk_121 (σ : Mem) (x4 x6 : Int)  {q : (Int × Mem)} (h : f_Y3_walk_121 σ x4 x6 = some q) : Ev M_X3_walk 181 181 (some (0, q.1), rho, q.2) 121 181 rho σ [(2, (45 : Int)), (9, 0), (9, 0), (9, 0), (1, x4), (9, 0), (1, x6), (9, 0), (9, 0), (9, 0), (9, 0), (9, 0), (9, 0)] [] := by
  unfold f_Y3_walk_121 at h
  refine ev_aload_n dX3_walk_121 rfl (by decide) ?_
  refine ev_lload dX3_walk_122 rfl ?_
  refine ev_lload dX3_walk_124 rfl ?_
  refine ev_ldc2 (x := (-1 : Int)) dX3_walk_126 wc_X3_105 (by decide) (by decide) ?_
  refine ev_lxor dX3_walk_129 ?_
  refine ev_land dX3_walk_130 ?_
  refine ev_putfG (j := 11) (t := 1) dX3_walk_131 cf_X3 wf_X3_40 sp45 (by decide) (by decide) rfl (by decide) (by decide) rfl (fun z => absurd z (by decide +kernel)) h (fun σ15 h => ?_)
  refine ev_iconst dX3_walk_134 (by decide) ?_
  obtain rfl := Option.some.inj h
  exact ev_zret dX3_walk_135 rfl (chk_pos (.inr rfl))
set_option maxHeartbeats 4000000 in
set_option maxRecDepth 20000 in
theorem b_Y3_walk_18 (x1 : Int) (hx1 : isA x1) {r : Option V × Mem × Mem} : ∀ a x, f_Y3_walk_18B x1 a = some x → K_Y3_walk_18 x1 r x → K_Y3_walk_18 x1 r (.inl a) := by
  intro a x h K
  obtain ⟨x4, x6, x8, x9, σ⟩ := a
  have h : f_Y3_walk_18C x1 x4 x6 x8 x9 σ = some x := h
  unfold f_Y3_walk_18C at h
  show Ev M_X3_walk 181 181 r 18 181 rho σ [(2, (45 : Int)), (2, x1), (9, 0), (9, 0), (1, x4), (9, 0), (1, x6), (9, 0), (0, x8), (0, x9), (9, 0), (9, 0), (9, 0)] []
  refine ev_iload dX3_walk_18 rfl ?_
  refine ev_aload_n dX3_walk_20 rfl (by decide) ?_
  refine ev_getf (j := 6) (t := 0) (x := (σ (45 : Int) 6)) dX3_walk_21 cf_X3 wf_X3_30 sp45 (by decide) (by decide) rfl (by decide) rfl ?_
  refine ev_icmp_ge (tgt := 121) dX3_walk_24 rfl h (fun cb h => ?_) (fun cb h => ?_)
  · obtain rfl := Option.some.inj h
    exact ev_sub (L2 := [(2, (45 : Int)), (9, 0), (9, 0), (9, 0), (1, x4), (9, 0), (1, x6), (9, 0), (9, 0), (9, 0), (9, 0), (9, 0), (9, 0)]) K ⟨.inr rfl, .inl rfl, .inl rfl, .inl rfl, .inr rfl, .inl rfl, .inr rfl, .inl rfl, .inl rfl, .inl rfl, .inl rfl, .inl rfl, .inl rfl, trivial⟩
  refine ev_aload_n dX3_walk_27 rfl (pA hx1).1 ?_
  refine ev_iload dX3_walk_28 rfl ?_
  refine ev_iald dX3_walk_30 (sA hx1) (pA hx1).1 (pA hx1).2 h (fun h => ?_)
  refine ev_istoreG dX3_walk_31 h rfl (by decide) (fun v3 h => ?_)
  show Ev _ _ _ _ 33 _ _ _ [(2, (45 : Int)), (2, x1), (9, 0), (9, 0), (1, x4), (9, 0), (1, x6), (9, 0), (0, x8), (0, x9), (0, v3), (9, 0), (9, 0)] _
  refine ev_aload_n dX3_walk_33 rfl (by decide) ?_
  refine ev_getf (j := 1) (t := 2) (x := (47 : Int)) dX3_walk_34 cf_X3 wf_X3_15 sp45 (by decide) (by decide) rfl (by decide) (rp45_1 _) ?_
  refine ev_iload dX3_walk_37 rfl ?_
  refine ev_iald dX3_walk_39 sp47 (by decide) (by decide) h (fun h => ?_)
  refine ev_iload dX3_walk_40 rfl ?_
  refine ev_mx dX3_walk_42 wa_X3_100 wm_max (by decide) (Nat.le_of_ble_eq_true rfl) ?_
  refine ev_istoreG dX3_walk_45 h rfl (by decide) (fun v4 h => ?_)
  show Ev _ _ _ _ 47 _ _ _ [(2, (45 : Int)), (2, x1), (9, 0), (9, 0), (1, x4), (9, 0), (1, x6), (9, 0), (0, x8), (0, x9), (0, v3), (0, v4), (9, 0)] _
  show Ev _ _ _ _ 47 _ _ _ _ _
  refine ev_iload dX3_walk_47 rfl ?_
  refine ev_aload_n dX3_walk_49 rfl (by decide) ?_
  refine ev_getf (j := 2) (t := 2) (x := (48 : Int)) dX3_walk_50 cf_X3 wf_X3_18 sp45 (by decide) (by decide) rfl (by decide) (rp45_2 _) ?_
  refine ev_iload dX3_walk_53 rfl ?_
  refine ev_iald dX3_walk_55 sp48 (by decide) (by decide) h (fun h => ?_)
  refine ev_iadd dX3_walk_56 ?_
  refine ev_istoreG dX3_walk_57 h rfl (by decide) (fun v5 h => ?_)
  show Ev _ _ _ _ 59 _ _ _ [(2, (45 : Int)), (2, x1), (9, 0), (9, 0), (1, x4), (9, 0), (1, x6), (9, 0), (0, x8), (0, x9), (0, v3), (0, v4), (0, v5)] _
  refine ev_iload dX3_walk_59 rfl ?_
  refine ev_bipush dX3_walk_61 (by decide) (by decide) ?_
  refine ev_icmp_le (tgt := 68) dX3_walk_63 rfl h (fun cb h => ?_) (fun cb h => ?_)
  · refine ev_aload_n dX3_walk_68 rfl (by decide) ?_
    refine ev_getf (j := 5) (t := 2) (x := (51 : Int)) dX3_walk_69 cf_X3 wf_X3_27 sp45 (by decide) (by decide) rfl (by decide) (rp45_5 _) ?_
    refine ev_iload dX3_walk_72 rfl ?_
    refine ev_iload dX3_walk_74 rfl ?_
    refine ev_iastG dX3_walk_76 sp51 (by decide) (by decide) h (fun σ6 h => ?_)
    refine ev_lload dX3_walk_77 rfl ?_
    refine ev_iload dX3_walk_79 rfl ?_
    refine ev_iload dX3_walk_81 rfl ?_
    obtain ⟨v7, hc8, h⟩ := bind_of h
    refine ev_invSN_v (av := [(0, v4), (0, v5)]) (st := [(1, x4)]) (v := (1, v7)) (τ := σ6) dX3_walk_83 ml_X3_62 mt_X10_span rfl ⟨Nat.le_of_ble_eq_true rfl, Nat.le_of_ble_eq_true rfl⟩ (Nat.le_of_ble_eq_true rfl) (c_X10_span hc8) ?_
    refine ev_lor dX3_walk_86 ?_
    refine ev_lstoreG dX3_walk_87 h rfl (by decide) (fun v9 h => ?_)
    show Ev _ _ _ _ 89 _ _ _ [(2, (45 : Int)), (2, x1), (9, 0), (9, 0), (1, v9), (9, 0), (1, x6), (9, 0), (0, x8), (0, x9), (0, v3), (0, v4), (0, v5)] _
    show Ev _ _ _ _ 89 _ _ _ _ _
    refine ev_lload dX3_walk_89 rfl ?_
    refine ev_aload_n dX3_walk_91 rfl (by decide) ?_
    refine ev_getf (j := 1) (t := 2) (x := (47 : Int)) dX3_walk_92 cf_X3 wf_X3_15 sp45 (by decide) (by decide) rfl (by decide) (rp45_1 _) ?_
    refine ev_iload dX3_walk_95 rfl ?_
    refine ev_iald dX3_walk_97 sp47 (by decide) (by decide) h (fun h => ?_)
    refine ev_iload dX3_walk_98 rfl ?_
    obtain ⟨v10, hc11, h⟩ := bind_of h
    refine ev_invSN_v (av := [(0, (σ6 (47 : Int) v3)), (0, v4)]) (st := [(1, x6)]) (v := (1, v10)) (τ := σ6) dX3_walk_100 ml_X3_62 mt_X10_span rfl ⟨Nat.le_of_ble_eq_true rfl, Nat.le_of_ble_eq_true rfl⟩ (Nat.le_of_ble_eq_true rfl) (c_X10_span hc11) ?_
    refine ev_lor dX3_walk_103 ?_
    refine ev_lstoreG dX3_walk_104 h rfl (by decide) (fun v12 h => ?_)
    show Ev _ _ _ _ 106 _ _ _ [(2, (45 : Int)), (2, x1), (9, 0), (9, 0), (1, v9), (9, 0), (1, v12), (9, 0), (0, x8), (0, x9), (0, v3), (0, v4), (0, v5)] _
    refine ev_iload dX3_walk_106 rfl ?_
    refine ev_aload_n dX3_walk_108 rfl (by decide) ?_
    refine ev_getf (j := 7) (t := 0) (x := (σ6 (45 : Int) 7)) dX3_walk_109 cf_X3 wf_X3_50 sp45 (by decide) (by decide) rfl (by decide) rfl ?_
    show Ev _ _ _ _ 112 _ _ _ _ _
    refine ev_iadd dX3_walk_112 ?_
    refine ev_istoreG dX3_walk_113 h rfl (by decide) (fun v13 h => ?_)
    show Ev _ _ _ _ 115 _ _ _ [(2, (45 : Int)), (2, x1), (9, 0), (9, 0), (1, v9), (9, 0), (1, v12), (9, 0), (0, v13), (0, x9), (0, v3), (0, v4), (0, v5)] _
    refine ev_iincG dX3_walk_115 rfl h rfl (fun v14 h => ?_)
    show Ev _ _ _ _ 118 _ _ _ [(2, (45 : Int)), (2, x1), (9, 0), (9, 0), (1, v9), (9, 0), (1, v12), (9, 0), (0, v13), (0, v14), (0, v3), (0, v4), (0, v5)] _
    refine ev_goto (tgt := 18) dX3_walk_118 rfl ?_
    obtain rfl := Option.some.inj h
    exact ev_sub (L2 := [(2, (45 : Int)), (2, x1), (9, 0), (9, 0), (1, v9), (9, 0), (1, v12), (9, 0), (0, v13), (0, v14), (9, 0), (9, 0), (9, 0)]) K ⟨.inr rfl, .inr rfl, .inl rfl, .inl rfl, .inr rfl, .inl rfl, .inr rfl, .inl rfl, .inr rfl, .inr rfl, .inl rfl, .inl rfl, .inl rfl, trivial⟩
  obtain rfl := Option.some.inj h
  exact ev_sub (L2 := [(9, 0), (9, 0), (9, 0), (9, 0), (9, 0), (9, 0), (9, 0), (9, 0), (9, 0), (9, 0), (9, 0), (9, 0), (9, 0)]) K ⟨.inl rfl, .inl rfl, .inl rfl, .inl rfl, .inl rfl, .inl rfl, .inl rfl, .inl rfl, .inl rfl, .inl rfl, .inl rfl, .inl rfl, .inl rfl, trivial⟩
set_option maxHeartbeats 4000000 in
set_option maxRecDepth 20000 in
theorem e_Y3_walk_18 (σ : Mem) (x1 x4 x6 x8 x9 : Int) (hx1 : isA x1) {q : (Int × Mem)} (h : f_Y3_walk_18 σ x1 x4 x6 x8 x9 = some q) : Ev M_X3_walk 181 181 (some (0, q.1), rho, q.2) 18 181 rho σ [(2, (45 : Int)), (2, x1), (9, 0), (9, 0), (1, x4), (9, 0), (1, x6), (9, 0), (0, x8), (0, x9), (9, 0), (9, 0), (9, 0)] [] := by
  unfold f_Y3_walk_18 at h
  obtain ⟨e, hl, h⟩ := bind_of h
  refine loop_ev (K := K_Y3_walk_18 x1 (some (0, q.1), rho, q.2)) (b_Y3_walk_18 x1 hx1) FU (x4, x6, x8, x9, σ) e hl ?_
  rcases e with e | e
  · show Ev M_X3_walk 181 181 _ 66 181 rho e [(9, 0), (9, 0), (9, 0), (9, 0), (9, 0), (9, 0), (9, 0), (9, 0), (9, 0), (9, 0), (9, 0), (9, 0), (9, 0)] []
    replace h : some ((0 : Int), e) = some q := h
    refine ev_iconst dX3_walk_66 (by decide) ?_
    obtain rfl := Option.some.inj h
    exact ev_zret dX3_walk_67 rfl (chk_pos (.inl rfl))
  · show Ev M_X3_walk 181 181 _ 121 181 rho e.2.2 [(2, (45 : Int)), (9, 0), (9, 0), (9, 0), (1, e.1), (9, 0), (1, e.2.1), (9, 0), (9, 0), (9, 0), (9, 0), (9, 0), (9, 0)] []
    replace h : f_Y3_walk_121 e.2.2 e.1 e.2.1 = some q := h
    exact ev_sub (L2 := [(2, (45 : Int)), (9, 0), (9, 0), (9, 0), (1, e.1), (9, 0), (1, e.2.1), (9, 0), (9, 0), (9, 0), (9, 0), (9, 0), (9, 0)]) (e_Y3_walk_121 e.2.2 e.1 e.2.1 h) ⟨.inr rfl, .inl rfl, .inl rfl, .inl rfl, .inr rfl, .inl rfl, .inr rfl, .inl rfl, .inl rfl, .inl rfl, .inl rfl, .inl rfl, .inl rfl, trivial⟩
set_option maxHeartbeats 4000000 in
set_option maxRecDepth 20000 in
theorem c_Y3_walk {σ : Mem} {x1 x2 : Int} (hx1 : isA x1) {q : (Int × Mem)} (h : f_Y3_walk σ x1 x2 = some q) : Ms yX3_walk M_X3_walk 181 181 [(2, (45 : Int)), (2, x1), (1, x2)] rho σ (some (0, q.1), rho, q.2) := by
  refine Ms.of 9 (by decide +kernel) rfl (fun z => absurd z (by decide)) (fun _ _ _ => trivial) rfl rfl ?_
  unfold f_Y3_walk at h
  show Ev M_X3_walk 181 181 _ 0 181 rho σ [(2, (45 : Int)), (2, x1), (1, x2), (9, 0), (9, 0), (9, 0), (9, 0), (9, 0), (9, 0), (9, 0), (9, 0), (9, 0), (9, 0)] []
  refine ev_aload_n dX3_walk_0 rfl (by decide) ?_
  refine ev_getf (j := 10) (t := 1) (x := (σ (45 : Int) 10)) dX3_walk_1 cf_X3 wf_X3_66 sp45 (by decide) (by decide) rfl (by decide) rfl ?_
  refine ev_lstoreG dX3_walk_4 h rfl (by decide) (fun v1 h => ?_)
  show Ev _ _ _ _ 6 _ _ _ [(2, (45 : Int)), (2, x1), (1, x2), (9, 0), (1, v1), (9, 0), (9, 0), (9, 0), (9, 0), (9, 0), (9, 0), (9, 0), (9, 0)] _
  refine ev_lload_n dX3_walk_6 rfl ?_
  refine ev_lstore dX3_walk_7 rfl (by decide) ?_
  show Ev _ _ _ _ 9 _ _ _ [(2, (45 : Int)), (2, x1), (1, x2), (9, 0), (1, v1), (9, 0), (1, x2), (9, 0), (9, 0), (9, 0), (9, 0), (9, 0), (9, 0)] _
  refine ev_aload_n dX3_walk_9 rfl (by decide) ?_
  refine ev_getf (j := 8) (t := 0) (x := (σ (45 : Int) 8)) dX3_walk_10 cf_X3 wf_X3_53 sp45 (by decide) (by decide) rfl (by decide) rfl ?_
  refine ev_istoreG dX3_walk_13 h rfl (by decide) (fun v2 h => ?_)
  show Ev _ _ _ _ 15 _ _ _ [(2, (45 : Int)), (2, x1), (1, x2), (9, 0), (1, v1), (9, 0), (1, x2), (9, 0), (0, v2), (9, 0), (9, 0), (9, 0), (9, 0)] _
  refine ev_iconst dX3_walk_15 (by decide) ?_
  refine ev_istore dX3_walk_16 rfl (by decide) ?_
  show Ev _ _ _ _ 18 _ _ _ [(2, (45 : Int)), (2, x1), (1, x2), (9, 0), (1, v1), (9, 0), (1, x2), (9, 0), (0, v2), (0, (0 : Int)), (9, 0), (9, 0), (9, 0)] _
  exact ev_sub (L2 := [(2, (45 : Int)), (2, x1), (9, 0), (9, 0), (1, v1), (9, 0), (1, x2), (9, 0), (0, v2), (0, (0 : Int)), (9, 0), (9, 0), (9, 0)]) (e_Y3_walk_18 σ x1 v1 x2 v2 (0 : Int) hx1 h) ⟨.inr rfl, .inr rfl, .inl rfl, .inl rfl, .inr rfl, .inl rfl, .inr rfl, .inl rfl, .inr rfl, .inr rfl, .inl rfl, .inl rfl, .inl rfl, trivial⟩
def K_Y3_measured_16 (σ : Mem) (x1 : Int) (r : Option V × Mem × Mem) : (Int × Int) ⊕ ((Int)) → Prop := Sum.elim (fun a => Ev M_X3_measured 181 181 r 16 181 rho σ [(2, (45 : Int)), (0, x1), (0, a.1), (0, a.2), (9, 0)] []) (fun e => Ev M_X3_measured 181 181 r 76 181 rho σ [(9, 0), (9, 0), (0, e), (9, 0), (9, 0)] [])
set_option maxHeartbeats 4000000 in
set_option maxRecDepth 20000 in
theorem b_Y3_measured_16 (σ : Mem) (x1 : Int)  {r : Option V × Mem × Mem} : ∀ a x, f_Y3_measured_16B σ x1 a = some x → K_Y3_measured_16 σ x1 r x → K_Y3_measured_16 σ x1 r (.inl a) := by
  intro a x h K
  obtain ⟨x2, x3⟩ := a
  have h : f_Y3_measured_16C σ x1 x2 x3 = some x := h
  unfold f_Y3_measured_16C at h
  show Ev M_X3_measured 181 181 r 16 181 rho σ [(2, (45 : Int)), (0, x1), (0, x2), (0, x3), (9, 0)] []
  refine ev_iload_n dX3_measured_16 rfl ?_
  refine ev_aload_n dX3_measured_17 rfl (by decide) ?_
  refine ev_getf (j := 6) (t := 0) (x := (σ (45 : Int) 6)) dX3_measured_18 cf_X3 wf_X3_30 sp45 (by decide) (by decide) rfl (by decide) rfl ?_
  refine ev_icmp_ge (tgt := 76) dX3_measured_21 rfl h (fun cb h => ?_) (fun cb h => ?_)
  · obtain rfl := Option.some.inj h
    exact ev_sub (L2 := [(9, 0), (9, 0), (0, x2), (9, 0), (9, 0)]) K ⟨.inl rfl, .inl rfl, .inr rfl, .inl rfl, .inl rfl, trivial⟩
  refine ev_aload_n dX3_measured_24 rfl (by decide) ?_
  refine ev_getf (j := 5) (t := 2) (x := (51 : Int)) dX3_measured_25 cf_X3 wf_X3_27 sp45 (by decide) (by decide) rfl (by decide) (rp45_5 _) ?_
  refine ev_iload_n dX3_measured_28 rfl ?_
  refine ev_iald dX3_measured_29 sp51 (by decide) (by decide) h (fun h => ?_)
  refine ev_aload_n dX3_measured_30 rfl (by decide) ?_
  refine ev_getf (j := 1) (t := 2) (x := (47 : Int)) dX3_measured_31 cf_X3 wf_X3_15 sp45 (by decide) (by decide) rfl (by decide) (rp45_1 _) ?_
  refine ev_aload_n dX3_measured_34 rfl (by decide) ?_
  refine ev_getf (j := 3) (t := 2) (x := (49 : Int)) dX3_measured_35 cf_X3 wf_X3_21 sp45 (by decide) (by decide) rfl (by decide) (rp45_3 _) ?_
  refine ev_iload_n dX3_measured_38 rfl ?_
  refine ev_iald dX3_measured_39 sp49 (by decide) (by decide) h (fun h => ?_)
  refine ev_iald dX3_measured_40 sp47 (by decide) (by decide) h (fun h => ?_)
  show Ev _ _ _ _ 41 _ _ _ _ _
  refine ev_isub dX3_measured_41 ?_
  refine ev_istoreG dX3_measured_42 h rfl (by decide) (fun v3 h => ?_)
  show Ev _ _ _ _ 44 _ _ _ [(2, (45 : Int)), (0, x1), (0, x2), (0, x3), (0, v3)] _
  refine ev_iload_n dX3_measured_44 rfl ?_
  refine ev_iload_n dX3_measured_45 rfl ?_
  refine ev_iload dX3_measured_46 rfl ?_
  refine ev_aload_n dX3_measured_48 rfl (by decide) ?_
  refine ev_getf (j := 5) (t := 2) (x := (51 : Int)) dX3_measured_49 cf_X3 wf_X3_27 sp45 (by decide) (by decide) rfl (by decide) (rp45_5 _) ?_
  refine ev_iload_n dX3_measured_52 rfl ?_
  refine ev_iald dX3_measured_53 sp51 (by decide) (by decide) h (fun h => ?_)
  refine ev_aload_n dX3_measured_54 rfl (by decide) ?_
  refine ev_getf (j := 2) (t := 2) (x := (48 : Int)) dX3_measured_55 cf_X3 wf_X3_18 sp45 (by decide) (by decide) rfl (by decide) (rp45_2 _) ?_
  refine ev_aload_n dX3_measured_58 rfl (by decide) ?_
  show Ev _ _ _ _ 59 _ _ _ _ _
  refine ev_getf (j := 3) (t := 2) (x := (49 : Int)) dX3_measured_59 cf_X3 wf_X3_21 sp45 (by decide) (by decide) rfl (by decide) (rp45_3 _) ?_
  refine ev_iload_n dX3_measured_62 rfl ?_
  refine ev_iald dX3_measured_63 sp49 (by decide) (by decide) h (fun h => ?_)
  refine ev_iald dX3_measured_64 sp48 (by decide) (by decide) h (fun h => ?_)
  refine ev_iadd dX3_measured_65 ?_
  obtain ⟨v4, hc5, h⟩ := bind_of h
  refine ev_invS_v (av := [(0, x1), (0, x2), (0, v3), (0, (jadd (σ (51 : Int) x3) (σ (48 : Int) (σ (49 : Int) x3))))]) (st := []) (v := (0, v4)) (τ := σ) dX3_measured_66 ml_X3_113 mt_X3_join rfl ⟨Nat.le_of_ble_eq_true rfl, Nat.le_of_ble_eq_true rfl⟩ (Nat.le_of_ble_eq_true rfl) (c_X3_join hc5) ?_
  refine ev_istore_n dX3_measured_69 rfl (by decide) ?_
  show Ev _ _ _ _ 70 _ _ _ [(2, (45 : Int)), (0, x1), (0, v4), (0, x3), (0, v3)] _
  refine ev_iincG dX3_measured_70 rfl h rfl (fun v6 h => ?_)
  show Ev _ _ _ _ 73 _ _ _ [(2, (45 : Int)), (0, x1), (0, v4), (0, v6), (0, v3)] _
  refine ev_goto (tgt := 16) dX3_measured_73 rfl ?_
  obtain rfl := Option.some.inj h
  exact ev_sub (L2 := [(2, (45 : Int)), (0, x1), (0, v4), (0, v6), (9, 0)]) K ⟨.inr rfl, .inr rfl, .inr rfl, .inr rfl, .inl rfl, trivial⟩
set_option maxHeartbeats 4000000 in
set_option maxRecDepth 20000 in
theorem e_Y3_measured_16 (σ : Mem) (x1 x2 x3 : Int)  {q : Int} (h : f_Y3_measured_16 σ x1 x2 x3 = some q) : Ev M_X3_measured 181 181 (some (0, q), rho, σ) 16 181 rho σ [(2, (45 : Int)), (0, x1), (0, x2), (0, x3), (9, 0)] [] := by
  unfold f_Y3_measured_16 at h
  obtain ⟨e, hl, h⟩ := bind_of h
  refine loop_ev (K := K_Y3_measured_16 σ x1 (some (0, q), rho, σ)) (b_Y3_measured_16 σ x1) FU (x2, x3) e hl ?_
  show Ev M_X3_measured 181 181 _ 76 181 rho σ [(9, 0), (9, 0), (0, e), (9, 0), (9, 0)] []
  replace h : some e = some q := h
  refine ev_iload_n dX3_measured_76 rfl ?_
  obtain rfl := Option.some.inj h
  exact ev_iret dX3_measured_77 rfl rfl
set_option maxHeartbeats 4000000 in
set_option maxRecDepth 20000 in
theorem c_Y3_measured {σ : Mem} {x1 : Int}  {q : Int} (h : f_Y3_measured σ x1 = some q) : Ms yX3_measured M_X3_measured 181 181 [(2, (45 : Int)), (0, x1)] rho σ (some (0, q), rho, σ) := by
  refine Ms.of 3 (by decide +kernel) rfl (fun z => absurd z (by decide)) (fun _ _ _ => trivial) rfl rfl ?_
  unfold f_Y3_measured at h
  show Ev M_X3_measured 181 181 _ 0 181 rho σ [(2, (45 : Int)), (0, x1), (9, 0), (9, 0), (9, 0)] []
  refine ev_iload_n dX3_measured_0 rfl ?_
  refine ev_if_ne (tgt := 12) dX3_measured_1 rfl h (fun cb h => ?_) (fun cb h => ?_)
  · refine ev_iconst dX3_measured_12 (by decide) ?_
    refine ev_istore_n dX3_measured_13 rfl (by decide) ?_
    show Ev _ _ _ _ 14 _ _ _ [(2, (45 : Int)), (0, x1), (0, (0 : Int)), (9, 0), (9, 0)] _
    refine ev_iconst dX3_measured_14 (by decide) ?_
    refine ev_istore_n dX3_measured_15 rfl (by decide) ?_
    show Ev _ _ _ _ 16 _ _ _ [(2, (45 : Int)), (0, x1), (0, (0 : Int)), (0, (0 : Int)), (9, 0)] _
    exact ev_sub (L2 := [(2, (45 : Int)), (0, x1), (0, (0 : Int)), (0, (0 : Int)), (9, 0)]) (e_Y3_measured_16 σ x1 (0 : Int) (0 : Int) h) ⟨.inr rfl, .inr rfl, .inr rfl, .inr rfl, .inl rfl, trivial⟩
  refine ev_aload_n dX3_measured_4 rfl (by decide) ?_
  refine ev_getf (j := 11) (t := 1) (x := (σ (45 : Int) 11)) dX3_measured_5 cf_X3 wf_X3_40 sp45 (by decide) (by decide) rfl (by decide) rfl ?_
  obtain ⟨v1, hc2, h⟩ := bind_of h
  refine ev_invS_v (av := [(1, (σ (45 : Int) 11))]) (st := []) (v := (0, v1)) (τ := σ) dX3_measured_8 ml_X3_107 mt_J13_bitCount_95d88 rfl ⟨Nat.le_of_ble_eq_true rfl, Nat.le_of_ble_eq_true rfl⟩ (Nat.le_of_ble_eq_true rfl) (c_J13_bitCount_95d88 hc2) ?_
  obtain rfl := Option.some.inj h
  exact ev_iret dX3_measured_11 rfl rfl
set_option maxHeartbeats 4000000 in
set_option maxRecDepth 20000 in
theorem c_Y3_swap {σ : Mem} {x1 x2 : Int}  {q : Mem} (h : f_Y3_swap σ x1 x2 = some q) : Ms yX3_swap M_X3_swap 181 181 [(2, (45 : Int)), (0, x1), (0, x2)] rho σ (none, rho, q) := by
  refine Ms.of 1 (by decide +kernel) rfl (fun z => absurd z (by decide)) (fun _ _ _ => trivial) rfl rfl ?_
  unfold f_Y3_swap at h
  show Ev M_X3_swap 181 181 _ 0 181 rho σ [(2, (45 : Int)), (0, x1), (0, x2), (9, 0)] []
  refine ev_aload_n dX3_swap_0 rfl (by decide) ?_
  refine ev_getf (j := 3) (t := 2) (x := (49 : Int)) dX3_swap_1 cf_X3 wf_X3_21 sp45 (by decide) (by decide) rfl (by decide) (rp45_3 _) ?_
  refine ev_iload_n dX3_swap_4 rfl ?_
  refine ev_iald dX3_swap_5 sp49 (by decide) (by decide) h (fun h => ?_)
  refine ev_istore_nG dX3_swap_6 h rfl (by decide) (fun v1 h => ?_)
  show Ev _ _ _ _ 7 _ _ _ [(2, (45 : Int)), (0, x1), (0, x2), (0, v1)] _
  refine ev_aload_n dX3_swap_7 rfl (by decide) ?_
  refine ev_getf (j := 3) (t := 2) (x := (49 : Int)) dX3_swap_8 cf_X3 wf_X3_21 sp45 (by decide) (by decide) rfl (by decide) (rp45_3 _) ?_
  refine ev_iload_n dX3_swap_11 rfl ?_
  refine ev_aload_n dX3_swap_12 rfl (by decide) ?_
  refine ev_getf (j := 3) (t := 2) (x := (49 : Int)) dX3_swap_13 cf_X3 wf_X3_21 sp45 (by decide) (by decide) rfl (by decide) (rp45_3 _) ?_
  refine ev_iload_n dX3_swap_16 rfl ?_
  show Ev _ _ _ _ 17 _ _ _ _ _
  refine ev_iald dX3_swap_17 sp49 (by decide) (by decide) h (fun h => ?_)
  refine ev_iastG dX3_swap_18 sp49 (by decide) (by decide) h (fun σ2 h => ?_)
  refine ev_aload_n dX3_swap_19 rfl (by decide) ?_
  refine ev_getf (j := 3) (t := 2) (x := (49 : Int)) dX3_swap_20 cf_X3 wf_X3_21 sp45 (by decide) (by decide) rfl (by decide) (rp45_3 _) ?_
  refine ev_iload_n dX3_swap_23 rfl ?_
  refine ev_iload_n dX3_swap_24 rfl ?_
  refine ev_iastG dX3_swap_25 sp49 (by decide) (by decide) h (fun σ3 h => ?_)
  obtain rfl := Option.some.inj h
  exact ev_vret dX3_swap_26 rfl rfl
def K_Y3_nextRow_93 (r : Option V × Mem × Mem) : (Int × Int × Mem) ⊕ ((Mem)) → Prop := Sum.elim (fun a => Ev M_X3_nextRow 181 181 r 93 181 rho a.2.2 [(2, (45 : Int)), (9, 0), (9, 0), (0, a.1), (0, a.2.1)] []) (fun e => Ev M_X3_nextRow 181 181 r 115 181 rho e [(9, 0), (9, 0), (9, 0), (9, 0), (9, 0)] [])
def K_Y3_nextRow_47 (σ : Mem) (x1 : Int) (r : Option V × Mem × Mem) : (Int) ⊕ ((Int)) → Prop := Sum.elim (fun a => Ev M_X3_nextRow 181 181 r 47 181 rho σ [(2, (45 : Int)), (0, x1), (0, a), (9, 0), (9, 0)] []) (fun e => Ev M_X3_nextRow 181 181 r 75 181 rho σ [(2, (45 : Int)), (0, x1), (0, e), (9, 0), (9, 0)] [])
def K_Y3_nextRow_7 (σ : Mem) (r : Option V × Mem × Mem) : (Int) ⊕ ((Int)) → Prop := Sum.elim (fun a => Ev M_X3_nextRow 181 181 r 7 181 rho σ [(2, (45 : Int)), (0, a), (9, 0), (9, 0), (9, 0)] []) (fun e => Ev M_X3_nextRow 181 181 r 34 181 rho σ [(2, (45 : Int)), (0, e), (9, 0), (9, 0), (9, 0)] [])
set_option maxHeartbeats 4000000 in
set_option maxRecDepth 20000 in
theorem b_Y3_nextRow_93  {r : Option V × Mem × Mem} : ∀ a x, f_Y3_nextRow_93B  a = some x → K_Y3_nextRow_93  r x → K_Y3_nextRow_93  r (.inl a) := by
  intro a x h K
  obtain ⟨x3, x4, σ⟩ := a
  have h : f_Y3_nextRow_93C  x3 x4 σ = some x := h
  unfold f_Y3_nextRow_93C at h
  show Ev M_X3_nextRow 181 181 r 93 181 rho σ [(2, (45 : Int)), (9, 0), (9, 0), (0, x3), (0, x4)] []
  refine ev_iload_n dX3_nextRow_93 rfl ?_
  refine ev_iload dX3_nextRow_94 rfl ?_
  refine ev_icmp_ge (tgt := 115) dX3_nextRow_96 rfl h (fun cb h => ?_) (fun cb h => ?_)
  · obtain rfl := Option.some.inj h
    exact ev_sub (L2 := [(9, 0), (9, 0), (9, 0), (9, 0), (9, 0)]) K ⟨.inl rfl, .inl rfl, .inl rfl, .inl rfl, .inl rfl, trivial⟩
  refine ev_aload_n dX3_nextRow_99 rfl (by decide) ?_
  refine ev_iload_n dX3_nextRow_100 rfl ?_
  refine ev_iload dX3_nextRow_101 rfl ?_
  obtain ⟨σ9, hc10, h⟩ := bind_of h
  refine ev_invV_n (k := (45 : Int)) (av := [(0, x3), (0, x4)]) (st := []) (τ := σ9) dX3_nextRow_103 ml_X3_117 mv_X3_swap (T := TX3) (ci := 2) rfl sp45 (by decide) (by decide) rfl ⟨Nat.le_of_ble_eq_true rfl, Nat.le_of_ble_eq_true rfl⟩ (Nat.le_of_ble_eq_true rfl) (c_Y3_swap hc10) ?_
  refine ev_iincG dX3_nextRow_106 rfl h rfl (fun v11 h => ?_)
  show Ev _ _ _ _ 109 _ _ _ [(2, (45 : Int)), (9, 0), (9, 0), (0, v11), (0, x4)] _
  refine ev_iincG dX3_nextRow_109 rfl h rfl (fun v12 h => ?_)
  show Ev _ _ _ _ 112 _ _ _ [(2, (45 : Int)), (9, 0), (9, 0), (0, v11), (0, v12)] _
  refine ev_goto (tgt := 93) dX3_nextRow_112 rfl ?_
  obtain rfl := Option.some.inj h
  exact ev_sub (L2 := [(2, (45 : Int)), (9, 0), (9, 0), (0, v11), (0, v12)]) K ⟨.inr rfl, .inl rfl, .inl rfl, .inr rfl, .inr rfl, trivial⟩
set_option maxHeartbeats 4000000 in
set_option maxRecDepth 20000 in
theorem e_Y3_nextRow_93 (σ : Mem) (x3 x4 : Int)  {q : (Int × Mem)} (h : f_Y3_nextRow_93 σ x3 x4 = some q) : Ev M_X3_nextRow 181 181 (some (0, q.1), rho, q.2) 93 181 rho σ [(2, (45 : Int)), (9, 0), (9, 0), (0, x3), (0, x4)] [] := by
  unfold f_Y3_nextRow_93 at h
  obtain ⟨e, hl, h⟩ := bind_of h
  refine loop_ev (K := K_Y3_nextRow_93  (some (0, q.1), rho, q.2)) (b_Y3_nextRow_93 ) FU (x3, x4, σ) e hl ?_
  show Ev M_X3_nextRow 181 181 _ 115 181 rho e [(9, 0), (9, 0), (9, 0), (9, 0), (9, 0)] []
  replace h : some ((1 : Int), e) = some q := h
  refine ev_iconst dX3_nextRow_115 (by decide) ?_
  obtain rfl := Option.some.inj h
  exact ev_zret dX3_nextRow_116 rfl (chk_pos (.inr rfl))
set_option maxHeartbeats 4000000 in
set_option maxRecDepth 20000 in
theorem e_Y3_nextRow_75 (σ : Mem) (x1 x2 : Int)  {q : (Int × Mem)} (h : f_Y3_nextRow_75 σ x1 x2 = some q) : Ev M_X3_nextRow 181 181 (some (0, q.1), rho, q.2) 75 181 rho σ [(2, (45 : Int)), (0, x1), (0, x2), (9, 0), (9, 0)] [] := by
  unfold f_Y3_nextRow_75 at h
  refine ev_aload_n dX3_nextRow_75 rfl (by decide) ?_
  refine ev_iload_n dX3_nextRow_76 rfl ?_
  refine ev_iload_n dX3_nextRow_77 rfl ?_
  obtain ⟨σ5, hc6, h⟩ := bind_of h
  refine ev_invV_n (k := (45 : Int)) (av := [(0, x1), (0, x2)]) (st := []) (τ := σ5) dX3_nextRow_78 ml_X3_117 mv_X3_swap (T := TX3) (ci := 2) rfl sp45 (by decide) (by decide) rfl ⟨Nat.le_of_ble_eq_true rfl, Nat.le_of_ble_eq_true rfl⟩ (Nat.le_of_ble_eq_true rfl) (c_Y3_swap hc6) ?_
  refine ev_iload_n dX3_nextRow_81 rfl ?_
  refine ev_iconst dX3_nextRow_82 (by decide) ?_
  refine ev_iadd dX3_nextRow_83 ?_
  refine ev_istore_nG dX3_nextRow_84 h rfl (by decide) (fun v7 h => ?_)
  show Ev _ _ _ _ 85 _ _ _ [(2, (45 : Int)), (0, x1), (0, x2), (0, v7), (9, 0)] _
  refine ev_aload_n dX3_nextRow_85 rfl (by decide) ?_
  refine ev_getf (j := 6) (t := 0) (x := (σ5 (45 : Int) 6)) dX3_nextRow_86 cf_X3 wf_X3_30 sp45 (by decide) (by decide) rfl (by decide) rfl ?_
  refine ev_iconst dX3_nextRow_89 (by decide) ?_
  show Ev _ _ _ _ 90 _ _ _ _ _
  refine ev_isub dX3_nextRow_90 ?_
  refine ev_istoreG dX3_nextRow_91 h rfl (by decide) (fun v8 h => ?_)
  show Ev _ _ _ _ 93 _ _ _ [(2, (45 : Int)), (0, x1), (0, x2), (0, v7), (0, v8)] _
  exact ev_sub (L2 := [(2, (45 : Int)), (9, 0), (9, 0), (0, v7), (0, v8)]) (e_Y3_nextRow_93 σ5 v7 v8 h) ⟨.inr rfl, .inl rfl, .inl rfl, .inr rfl, .inr rfl, trivial⟩
set_option maxHeartbeats 4000000 in
set_option maxRecDepth 20000 in
theorem b_Y3_nextRow_47 (σ : Mem) (x1 : Int)  {r : Option V × Mem × Mem} : ∀ a x, f_Y3_nextRow_47B σ x1 a = some x → K_Y3_nextRow_47 σ x1 r x → K_Y3_nextRow_47 σ x1 r (.inl a) := by
  intro a x h K
  have ⟨x2, ea⟩ : ∃ z, z = a := ⟨_, rfl⟩
  subst ea
  have h : f_Y3_nextRow_47C σ x1 x2 = some x := h
  unfold f_Y3_nextRow_47C at h
  show Ev M_X3_nextRow 181 181 r 47 181 rho σ [(2, (45 : Int)), (0, x1), (0, x2), (9, 0), (9, 0)] []
  refine ev_iload_n dX3_nextRow_47 rfl ?_
  refine ev_iload_n dX3_nextRow_48 rfl ?_
  refine ev_iconst dX3_nextRow_49 (by decide) ?_
  refine ev_iadd dX3_nextRow_50 ?_
  refine ev_icmp_le (tgt := 75) dX3_nextRow_51 rfl h (fun cb h => ?_) (fun cb h => ?_)
  · obtain rfl := Option.some.inj h
    exact ev_sub (L2 := [(2, (45 : Int)), (0, x1), (0, x2), (9, 0), (9, 0)]) K ⟨.inr rfl, .inr rfl, .inr rfl, .inl rfl, .inl rfl, trivial⟩
  refine ev_aload_n dX3_nextRow_54 rfl (by decide) ?_
  refine ev_getf (j := 3) (t := 2) (x := (49 : Int)) dX3_nextRow_55 cf_X3 wf_X3_21 sp45 (by decide) (by decide) rfl (by decide) (rp45_3 _) ?_
  refine ev_iload_n dX3_nextRow_58 rfl ?_
  refine ev_iald dX3_nextRow_59 sp49 (by decide) (by decide) h (fun h => ?_)
  refine ev_aload_n dX3_nextRow_60 rfl (by decide) ?_
  refine ev_getf (j := 3) (t := 2) (x := (49 : Int)) dX3_nextRow_61 cf_X3 wf_X3_21 sp45 (by decide) (by decide) rfl (by decide) (rp45_3 _) ?_
  refine ev_iload_n dX3_nextRow_64 rfl ?_
  refine ev_iald dX3_nextRow_65 sp49 (by decide) (by decide) h (fun h => ?_)
  refine ev_icmp_ge (tgt := 75) dX3_nextRow_66 rfl h (fun cb h => ?_) (fun cb h => ?_)
  · obtain rfl := Option.some.inj h
    exact ev_sub (L2 := [(2, (45 : Int)), (0, x1), (0, x2), (9, 0), (9, 0)]) K ⟨.inr rfl, .inr rfl, .inr rfl, .inl rfl, .inl rfl, trivial⟩
  refine ev_iincG dX3_nextRow_69 rfl h rfl (fun v4 h => ?_)
  show Ev _ _ _ _ 72 _ _ _ [(2, (45 : Int)), (0, x1), (0, v4), (9, 0), (9, 0)] _
  refine ev_goto (tgt := 47) dX3_nextRow_72 rfl ?_
  obtain rfl := Option.some.inj h
  exact ev_sub (L2 := [(2, (45 : Int)), (0, x1), (0, v4), (9, 0), (9, 0)]) K ⟨.inr rfl, .inr rfl, .inr rfl, .inl rfl, .inl rfl, trivial⟩
set_option maxHeartbeats 4000000 in
set_option maxRecDepth 20000 in
theorem e_Y3_nextRow_47 (σ : Mem) (x1 x2 : Int)  {q : (Int × Mem)} (h : f_Y3_nextRow_47 σ x1 x2 = some q) : Ev M_X3_nextRow 181 181 (some (0, q.1), rho, q.2) 47 181 rho σ [(2, (45 : Int)), (0, x1), (0, x2), (9, 0), (9, 0)] [] := by
  unfold f_Y3_nextRow_47 at h
  obtain ⟨e, hl, h⟩ := bind_of h
  refine loop_ev (K := K_Y3_nextRow_47 σ x1 (some (0, q.1), rho, q.2)) (b_Y3_nextRow_47 σ x1) FU x2 e hl ?_
  show Ev M_X3_nextRow 181 181 _ 75 181 rho σ [(2, (45 : Int)), (0, x1), (0, e), (9, 0), (9, 0)] []
  replace h : f_Y3_nextRow_75 σ x1 e = some q := h
  exact ev_sub (L2 := [(2, (45 : Int)), (0, x1), (0, e), (9, 0), (9, 0)]) (e_Y3_nextRow_75 σ x1 e h) ⟨.inr rfl, .inr rfl, .inr rfl, .inl rfl, .inl rfl, trivial⟩
set_option maxHeartbeats 4000000 in
set_option maxRecDepth 20000 in
theorem e_Y3_nextRow_34 (σ : Mem) (x1 : Int)  {q : (Int × Mem)} (h : f_Y3_nextRow_34 σ x1 = some q) : Ev M_X3_nextRow 181 181 (some (0, q.1), rho, q.2) 34 181 rho σ [(2, (45 : Int)), (0, x1), (9, 0), (9, 0), (9, 0)] [] := by
  unfold f_Y3_nextRow_34 at h
  refine ev_iload_n dX3_nextRow_34 rfl ?_
  refine ev_if_ge (tgt := 40) dX3_nextRow_35 rfl h (fun cb h => ?_) (fun cb h => ?_)
  · refine ev_aload_n dX3_nextRow_40 rfl (by decide) ?_
    refine ev_getf (j := 6) (t := 0) (x := (σ (45 : Int) 6)) dX3_nextRow_41 cf_X3 wf_X3_30 sp45 (by decide) (by decide) rfl (by decide) rfl ?_
    refine ev_iconst dX3_nextRow_44 (by decide) ?_
    refine ev_isub dX3_nextRow_45 ?_
    refine ev_istore_nG dX3_nextRow_46 h rfl (by decide) (fun v3 h => ?_)
    show Ev _ _ _ _ 47 _ _ _ [(2, (45 : Int)), (0, x1), (0, v3), (9, 0), (9, 0)] _
    exact ev_sub (L2 := [(2, (45 : Int)), (0, x1), (0, v3), (9, 0), (9, 0)]) (e_Y3_nextRow_47 σ x1 v3 h) ⟨.inr rfl, .inr rfl, .inr rfl, .inl rfl, .inl rfl, trivial⟩
  refine ev_iconst dX3_nextRow_38 (by decide) ?_
  obtain rfl := Option.some.inj h
  exact ev_zret dX3_nextRow_39 rfl (chk_pos (.inl rfl))
set_option maxHeartbeats 4000000 in
set_option maxRecDepth 20000 in
theorem b_Y3_nextRow_7 (σ : Mem)  {r : Option V × Mem × Mem} : ∀ a x, f_Y3_nextRow_7B σ a = some x → K_Y3_nextRow_7 σ r x → K_Y3_nextRow_7 σ r (.inl a) := by
  intro a x h K
  have ⟨x1, ea⟩ : ∃ z, z = a := ⟨_, rfl⟩
  subst ea
  have h : f_Y3_nextRow_7C σ x1 = some x := h
  unfold f_Y3_nextRow_7C at h
  show Ev M_X3_nextRow 181 181 r 7 181 rho σ [(2, (45 : Int)), (0, x1), (9, 0), (9, 0), (9, 0)] []
  refine ev_iload_n dX3_nextRow_7 rfl ?_
  refine ev_if_lt (tgt := 34) dX3_nextRow_8 rfl h (fun cb h => ?_) (fun cb h => ?_)
  · obtain rfl := Option.some.inj h
    exact ev_sub (L2 := [(2, (45 : Int)), (0, x1), (9, 0), (9, 0), (9, 0)]) K ⟨.inr rfl, .inr rfl, .inl rfl, .inl rfl, .inl rfl, trivial⟩
  refine ev_aload_n dX3_nextRow_11 rfl (by decide) ?_
  refine ev_getf (j := 3) (t := 2) (x := (49 : Int)) dX3_nextRow_12 cf_X3 wf_X3_21 sp45 (by decide) (by decide) rfl (by decide) (rp45_3 _) ?_
  refine ev_iload_n dX3_nextRow_15 rfl ?_
  refine ev_iald dX3_nextRow_16 sp49 (by decide) (by decide) h (fun h => ?_)
  refine ev_aload_n dX3_nextRow_17 rfl (by decide) ?_
  refine ev_getf (j := 3) (t := 2) (x := (49 : Int)) dX3_nextRow_18 cf_X3 wf_X3_21 sp45 (by decide) (by decide) rfl (by decide) (rp45_3 _) ?_
  refine ev_iload_n dX3_nextRow_21 rfl ?_
  refine ev_iconst dX3_nextRow_22 (by decide) ?_
  refine ev_iadd dX3_nextRow_23 ?_
  refine ev_iald dX3_nextRow_24 sp49 (by decide) (by decide) h (fun h => ?_)
  refine ev_icmp_le (tgt := 34) dX3_nextRow_25 rfl h (fun cb h => ?_) (fun cb h => ?_)
  · obtain rfl := Option.some.inj h
    exact ev_sub (L2 := [(2, (45 : Int)), (0, x1), (9, 0), (9, 0), (9, 0)]) K ⟨.inr rfl, .inr rfl, .inl rfl, .inl rfl, .inl rfl, trivial⟩
  refine ev_iincG dX3_nextRow_28 rfl h rfl (fun v2 h => ?_)
  show Ev _ _ _ _ 31 _ _ _ [(2, (45 : Int)), (0, v2), (9, 0), (9, 0), (9, 0)] _
  refine ev_goto (tgt := 7) dX3_nextRow_31 rfl ?_
  obtain rfl := Option.some.inj h
  exact ev_sub (L2 := [(2, (45 : Int)), (0, v2), (9, 0), (9, 0), (9, 0)]) K ⟨.inr rfl, .inr rfl, .inl rfl, .inl rfl, .inl rfl, trivial⟩
set_option maxHeartbeats 4000000 in
set_option maxRecDepth 20000 in
theorem e_Y3_nextRow_7 (σ : Mem) (x1 : Int)  {q : (Int × Mem)} (h : f_Y3_nextRow_7 σ x1 = some q) : Ev M_X3_nextRow 181 181 (some (0, q.1), rho, q.2) 7 181 rho σ [(2, (45 : Int)), (0, x1), (9, 0), (9, 0), (9, 0)] [] := by
  unfold f_Y3_nextRow_7 at h
  obtain ⟨e, hl, h⟩ := bind_of h
  refine loop_ev (K := K_Y3_nextRow_7 σ (some (0, q.1), rho, q.2)) (b_Y3_nextRow_7 σ) FU x1 e hl ?_
  show Ev M_X3_nextRow 181 181 _ 34 181 rho σ [(2, (45 : Int)), (0, e), (9, 0), (9, 0), (9, 0)] []
  replace h : f_Y3_nextRow_34 σ e = some q := h
  exact ev_sub (L2 := [(2, (45 : Int)), (0, e), (9, 0), (9, 0), (9, 0)]) (e_Y3_nextRow_34 σ e h) ⟨.inr rfl, .inr rfl, .inl rfl, .inl rfl, .inl rfl, trivial⟩
set_option maxHeartbeats 4000000 in
set_option maxRecDepth 20000 in
theorem c_Y3_nextRow {σ : Mem}  {q : (Int × Mem)} (h : f_Y3_nextRow σ  = some q) : Ms yX3_nextRow M_X3_nextRow 181 181 [(2, (45 : Int))] rho σ (some (0, q.1), rho, q.2) := by
  refine Ms.of 4 (by decide +kernel) rfl (fun z => absurd z (by decide)) (fun _ _ _ => trivial) rfl rfl ?_
  unfold f_Y3_nextRow at h
  show Ev M_X3_nextRow 181 181 _ 0 181 rho σ [(2, (45 : Int)), (9, 0), (9, 0), (9, 0), (9, 0)] []
  refine ev_aload_n dX3_nextRow_0 rfl (by decide) ?_
  refine ev_getf (j := 6) (t := 0) (x := (σ (45 : Int) 6)) dX3_nextRow_1 cf_X3 wf_X3_30 sp45 (by decide) (by decide) rfl (by decide) rfl ?_
  refine ev_iconst dX3_nextRow_4 (by decide) ?_
  refine ev_isub dX3_nextRow_5 ?_
  refine ev_istore_nG dX3_nextRow_6 h rfl (by decide) (fun v1 h => ?_)
  show Ev _ _ _ _ 7 _ _ _ [(2, (45 : Int)), (0, v1), (9, 0), (9, 0), (9, 0)] _
  exact ev_sub (L2 := [(2, (45 : Int)), (0, v1), (9, 0), (9, 0), (9, 0)]) (e_Y3_nextRow_7 σ v1 h) ⟨.inr rfl, .inr rfl, .inl rfl, .inl rfl, .inl rfl, trivial⟩
