set_option maxHeartbeats 4000000 in
set_option maxRecDepth 20000 in
theorem e_X10_left_25 (σ : Mem)  {q : (Int × Mem)} (h : f_X10_left_25 σ  = some q) : Ev M_X10_left 210 210 (some (0, q.1), rho, q.2) 25 210 rho σ [(2, (0 : Int)), (9, 0), (9, 0), (9, 0)] [] := by
  unfold f_X10_left_25 at h
  refine ev_aload_n dX10_left_25 rfl (by decide) ?_
  refine ev_bipush dX10_left_26 (by decide) (by decide) ?_
  obtain ⟨v11, hc12, h⟩ := bind_of h
  refine ev_invV_v (k := (0 : Int)) (av := [(0, (-52 : Int))]) (st := []) (v := (0, v11.1)) (τ := v11.2) dX10_left_28 ml_X10_90 mv_X10_refuse (T := TX10) (ci := 9) rfl sp0 (by decide) (by decide) rfl ⟨Nat.le_of_ble_eq_true rfl, Nat.le_of_ble_eq_true rfl⟩ (Nat.le_of_ble_eq_true rfl) (c_X10_refuse hc12) ?_
  obtain rfl := Option.some.inj h
  dsimp only
  exact ev_iret dX10_left_31 rfl rfl
set_option maxHeartbeats 4000000 in
set_option maxRecDepth 20000 in
theorem c_X10_left {σ : Mem} {x1 x2 x3 : Int}  {q : (Int × Mem)} (h : f_X10_left σ x1 x2 x3 = some q) : Ms yX10_left M_X10_left 210 210 [(2, (0 : Int)), (0, x1), (0, x2), (0, x3)] rho σ (some (0, q.1), rho, q.2) := by
  refine Ms.of 0 (by decide +kernel) rfl (fun z => absurd z (by decide)) (fun _ _ _ => trivial) rfl rfl ?_
  unfold f_X10_left at h
  show Ev M_X10_left 210 210 _ 0 210 rho σ [(2, (0 : Int)), (0, x1), (0, x2), (0, x3)] []
  refine ev_aload_n dX10_left_0 rfl (by decide) ?_
  refine ev_getf (j := 0) (t := 2) (x := (1 : Int)) dX10_left_1 cf_X10 wf_X10_12 sp0 (by decide) (by decide) rfl (by decide) (rp0_0 _) ?_
  refine ev_iload_n dX10_left_4 rfl ?_
  obtain ⟨v1, hc2, h⟩ := bind_of h
  refine ev_invV_v (k := (1 : Int)) (av := [(0, x1)]) (st := []) (v := (0, v1)) (τ := σ) dX10_left_5 ml_X10_364 mv_X0_hasRoom (T := TX0) (ci := 0) rfl sp1 (by decide) (by decide) rfl ⟨Nat.le_of_ble_eq_true rfl, Nat.le_of_ble_eq_true rfl⟩ (Nat.le_of_ble_eq_true rfl) (c_X0_hasRoom hB1 hc2) ?_
  refine ev_if_eq (tgt := 25) dX10_left_8 rfl h (fun cb h => ?_) (fun cb h => ?_)
  · exact ev_sub (L2 := [(2, (0 : Int)), (9, 0), (9, 0), (9, 0)]) (e_X10_left_25 σ h) ⟨.inr rfl, .inl rfl, .inl rfl, .inl rfl, trivial⟩
  refine ev_iload_n dX10_left_11 rfl ?_
  obtain ⟨v3, hc4, h⟩ := bind_of h
  refine ev_invS_v (av := [(0, x2)]) (st := []) (v := (0, v3)) (τ := σ) dX10_left_12 ml_X10_152 mt_X10_isDay rfl ⟨Nat.le_of_ble_eq_true rfl, Nat.le_of_ble_eq_true rfl⟩ (Nat.le_of_ble_eq_true rfl) (c_X10_isDay hc4) ?_
  refine ev_if_eq (tgt := 25) dX10_left_15 rfl h (fun cb h => ?_) (fun cb h => ?_)
  · exact ev_sub (L2 := [(2, (0 : Int)), (9, 0), (9, 0), (9, 0)]) (e_X10_left_25 σ h) ⟨.inr rfl, .inl rfl, .inl rfl, .inl rfl, trivial⟩
  refine ev_iload_n dX10_left_18 rfl ?_
  obtain ⟨v5, hc6, h⟩ := bind_of h
  refine ev_invS_v (av := [(0, x3)]) (st := []) (v := (0, v5)) (τ := σ) dX10_left_19 ml_X10_155 mt_X10_isSlot rfl ⟨Nat.le_of_ble_eq_true rfl, Nat.le_of_ble_eq_true rfl⟩ (Nat.le_of_ble_eq_true rfl) (c_X10_isSlot hc6) ?_
  refine ev_if_ne (tgt := 32) dX10_left_22 rfl h (fun cb h => ?_) (fun cb h => ?_)
  · refine ev_aload_n dX10_left_32 rfl (by decide) ?_
    refine ev_getf (j := 11) (t := 2) (x := (163 : Int)) dX10_left_33 cf_X10 wf_X10_73 sp0 (by decide) (by decide) rfl (by decide) (rp0_11 _) ?_
    refine ev_aload_n dX10_left_36 rfl (by decide) ?_
    refine ev_getf (j := 0) (t := 2) (x := (1 : Int)) dX10_left_37 cf_X10 wf_X10_12 sp0 (by decide) (by decide) rfl (by decide) (rp0_0 _) ?_
    refine ev_aload_n dX10_left_40 rfl (by decide) ?_
    refine ev_getf (j := 8) (t := 2) (x := (43 : Int)) dX10_left_41 cf_X10 wf_X10_52 sp0 (by decide) (by decide) rfl (by decide) (rp0_8 _) ?_
    refine ev_iload_n dX10_left_44 rfl ?_
    obtain ⟨σ7, hc8, h⟩ := bind_of h
    refine ev_invV_n (k := (163 : Int)) (av := [(2, (1 : Int)), (2, (43 : Int)), (0, x2)]) (st := []) (τ := σ7) dX10_left_45 ml_X10_351 mv_X5_lay (T := TX5) (ci := 4) rfl sp163 (by decide) (by decide) rfl ⟨Nat.le_of_ble_eq_true rfl, Nat.le_of_ble_eq_true rfl⟩ (Nat.le_of_ble_eq_true rfl) (c_X5_lay hc8) ?_
    refine ev_aload_n dX10_left_48 rfl (by decide) ?_
    refine ev_getf (j := 0) (t := 2) (x := (1 : Int)) dX10_left_49 cf_X10 wf_X10_12 sp0 (by decide) (by decide) rfl (by decide) (rp0_0 _) ?_
    refine ev_getf (j := 7) (t := 2) (x := (9 : Int)) dX10_left_52 cf_X0 wf_X10_367 sp1 (by decide) (by decide) rfl (by decide) (rp1_7 _) ?_
    show Ev _ _ _ _ 55 _ _ _ _ _
    refine ev_iload_n dX10_left_55 rfl ?_
    refine ev_iald dX10_left_56 sp9 (by decide) (by decide) h (fun h => ?_)
    refine ev_aload_n dX10_left_57 rfl (by decide) ?_
    refine ev_getf (j := 11) (t := 2) (x := (163 : Int)) dX10_left_58 cf_X10 wf_X10_73 sp0 (by decide) (by decide) rfl (by decide) (rp0_11 _) ?_
    refine ev_iload_n dX10_left_61 rfl ?_
    refine ev_iload_n dX10_left_62 rfl ?_
    obtain ⟨v9, hc10, h⟩ := bind_of h
    refine ev_invV_v (k := (163 : Int)) (av := [(0, x1), (0, x3)]) (st := [(0, (σ7 (9 : Int) x1))]) (v := (0, v9)) (τ := σ7) dX10_left_63 ml_X10_370 mv_X5_usedAt (T := TX5) (ci := 4) rfl sp163 (by decide) (by decide) rfl ⟨Nat.le_of_ble_eq_true rfl, Nat.le_of_ble_eq_true rfl⟩ (Nat.le_of_ble_eq_true rfl) (c_X5_usedAt hc10) ?_
    refine ev_isub dX10_left_66 ?_
    obtain rfl := Option.some.inj h
    dsimp only
    exact ev_iret dX10_left_67 rfl rfl
  exact ev_sub (L2 := [(2, (0 : Int)), (9, 0), (9, 0), (9, 0)]) (e_X10_left_25 σ h) ⟨.inr rfl, .inl rfl, .inl rfl, .inl rfl, trivial⟩
set_option maxHeartbeats 4000000 in
set_option maxRecDepth 20000 in
theorem c_X10_cantsFlipped {σ : Mem} {x1 x2 : Int}  {q : (Int × Mem)} (h : f_X10_cantsFlipped σ x1 x2 = some q) : Ms yX10_cantsFlipped M_X10_cantsFlipped 210 210 [(2, (0 : Int)), (0, x1), (0, x2)] rho σ (some (0, q.1), rho, q.2) := by
  refine Ms.of 0 (by decide +kernel) rfl (fun z => absurd z (by decide)) (fun _ _ _ => trivial) rfl rfl ?_
  unfold f_X10_cantsFlipped at h
  show Ev M_X10_cantsFlipped 210 210 _ 0 210 rho σ [(2, (0 : Int)), (0, x1), (0, x2)] []
  refine ev_aload_n dX10_cantsFlipped_0 rfl (by decide) ?_
  refine ev_getf (j := 1) (t := 2) (x := (10 : Int)) dX10_cantsFlipped_1 cf_X10 wf_X10_16 sp0 (by decide) (by decide) rfl (by decide) (rp0_1 _) ?_
  refine ev_iload_n dX10_cantsFlipped_4 rfl ?_
  refine ev_iload_n dX10_cantsFlipped_5 rfl ?_
  obtain ⟨σ1, hc2, h⟩ := bind_of h
  refine ev_invV_n (k := (10 : Int)) (av := [(0, x1), (0, x2)]) (st := []) (τ := σ1) dX10_cantsFlipped_6 ml_X10_196 mv_X0_flip (T := TX0) (ci := 0) rfl sp10 (by decide) (by decide) rfl ⟨Nat.le_of_ble_eq_true rfl, Nat.le_of_ble_eq_true rfl⟩ (Nat.le_of_ble_eq_true rfl) (c_X0_flip hB10 hc2) ?_
  refine ev_aload_n dX10_cantsFlipped_9 rfl (by decide) ?_
  refine ev_getf (j := 9) (t := 2) (x := (146 : Int)) dX10_cantsFlipped_10 cf_X10 wf_X10_59 sp0 (by decide) (by decide) rfl (by decide) (rp0_9 _) ?_
  refine ev_aload_n dX10_cantsFlipped_13 rfl (by decide) ?_
  refine ev_getf (j := 8) (t := 2) (x := (43 : Int)) dX10_cantsFlipped_14 cf_X10 wf_X10_52 sp0 (by decide) (by decide) rfl (by decide) (rp0_8 _) ?_
  refine ev_iload_n dX10_cantsFlipped_17 rfl ?_
  obtain ⟨v3, hc4, h⟩ := bind_of h
  refine ev_invV_v (k := (43 : Int)) (av := [(0, x1)]) (st := [(2, (146 : Int))]) (v := (2, v3.1)) (τ := v3.2) dX10_cantsFlipped_18 ml_X10_245 mv_X9_of (T := TX9) (ci := 8) rfl sp43 (by decide) (by decide) rfl ⟨Nat.le_of_ble_eq_true rfl, Nat.le_of_ble_eq_true rfl⟩ (Nat.le_of_ble_eq_true rfl) (c_X9_of hc4) ?_
  have hw5 := w_X9_of hc4
  show Ev _ _ _ _ 21 _ _ _ _ _
  obtain ⟨σ6, hc7, h⟩ := bind_of h
  refine ev_invV_n (k := (146 : Int)) (av := [(2, v3.1)]) (st := []) (τ := σ6) dX10_cantsFlipped_21 ml_X10_427 mv_X8_become (T := TX8) (ci := 7) rfl sp146 (by decide) (by decide) rfl ⟨Nat.le_of_ble_eq_true rfl, Nat.le_of_ble_eq_true rfl⟩ (Nat.le_of_ble_eq_true rfl) (c_X8_become hW146 hw5 hc7) ?_
  refine ev_aload_n dX10_cantsFlipped_24 rfl (by decide) ?_
  refine ev_getf (j := 7) (t := 2) (x := (35 : Int)) dX10_cantsFlipped_25 cf_X10 wf_X10_43 sp0 (by decide) (by decide) rfl (by decide) (rp0_7 _) ?_
  refine ev_aload_n dX10_cantsFlipped_28 rfl (by decide) ?_
  refine ev_getf (j := 1) (t := 2) (x := (10 : Int)) dX10_cantsFlipped_29 cf_X10 wf_X10_16 sp0 (by decide) (by decide) rfl (by decide) (rp0_1 _) ?_
  refine ev_iload_n dX10_cantsFlipped_32 rfl ?_
  refine ev_aload_n dX10_cantsFlipped_33 rfl (by decide) ?_
  refine ev_getf (j := 1) (t := 2) (x := (10 : Int)) dX10_cantsFlipped_34 cf_X10 wf_X10_16 sp0 (by decide) (by decide) rfl (by decide) (rp0_1 _) ?_
  refine ev_getf (j := 0) (t := 2) (x := (11 : Int)) dX10_cantsFlipped_37 cf_X0 wf_X10_252 sp10 (by decide) (by decide) rfl (by decide) (rp10_0 _) ?_
  refine ev_iload_n dX10_cantsFlipped_40 rfl ?_
  refine ev_iald dX10_cantsFlipped_41 sp11 (by decide) (by decide) h (fun h => ?_)
  refine ev_aload_n dX10_cantsFlipped_42 rfl (by decide) ?_
  show Ev _ _ _ _ 43 _ _ _ _ _
  refine ev_getf (j := 9) (t := 2) (x := (146 : Int)) dX10_cantsFlipped_43 cf_X10 wf_X10_59 sp0 (by decide) (by decide) rfl (by decide) (rp0_9 _) ?_
  obtain ⟨σ8, hc9, h⟩ := bind_of h
  refine ev_invV_n (k := (35 : Int)) (av := [(2, (10 : Int)), (0, x1), (0, (σ6 (11 : Int) x2)), (2, (146 : Int))]) (st := []) (τ := σ8) dX10_cantsFlipped_46 ml_X10_430 mv_X4_replan (T := TX4) (ci := 3) rfl sp35 (by decide) (by decide) rfl ⟨Nat.le_of_ble_eq_true rfl, Nat.le_of_ble_eq_true rfl⟩ (Nat.le_of_ble_eq_true rfl) (c_X4_replan hB10 hW146 hc9) ?_
  refine ev_aload_n dX10_cantsFlipped_49 rfl (by decide) ?_
  refine ev_getf (j := 1) (t := 2) (x := (10 : Int)) dX10_cantsFlipped_50 cf_X10 wf_X10_16 sp0 (by decide) (by decide) rfl (by decide) (rp0_1 _) ?_
  refine ev_iload_n dX10_cantsFlipped_53 rfl ?_
  refine ev_iload_n dX10_cantsFlipped_54 rfl ?_
  obtain ⟨σ10, hc11, h⟩ := bind_of h
  refine ev_invV_n (k := (10 : Int)) (av := [(0, x1), (0, x2)]) (st := []) (τ := σ10) dX10_cantsFlipped_55 ml_X10_196 mv_X0_flip (T := TX0) (ci := 0) rfl sp10 (by decide) (by decide) rfl ⟨Nat.le_of_ble_eq_true rfl, Nat.le_of_ble_eq_true rfl⟩ (Nat.le_of_ble_eq_true rfl) (c_X0_flip hB10 hc11) ?_
  refine ev_aload_n dX10_cantsFlipped_58 rfl (by decide) ?_
  refine ev_getf (j := 9) (t := 2) (x := (146 : Int)) dX10_cantsFlipped_59 cf_X10 wf_X10_59 sp0 (by decide) (by decide) rfl (by decide) (rp0_9 _) ?_
  obtain ⟨v12, hc13, h⟩ := bind_of h
  refine ev_invV_v (k := (146 : Int)) (av := []) (st := []) (v := (0, v12)) (τ := σ10) dX10_cantsFlipped_62 ml_X10_249 mv_X8_cants (T := TX8) (ci := 7) rfl sp146 (by decide) (by decide) rfl ⟨Nat.le_of_ble_eq_true rfl, Nat.le_of_ble_eq_true rfl⟩ (Nat.le_of_ble_eq_true rfl) (c_X8_cants hW146 hc13) ?_
  obtain rfl := Option.some.inj h
  dsimp only
  exact ev_iret dX10_cantsFlipped_65 rfl rfl
set_option maxHeartbeats 4000000 in
set_option maxRecDepth 20000 in
theorem e_X10_whatIf_23 (σ : Mem)  {q : (Int × Mem)} (h : f_X10_whatIf_23 σ  = some q) : Ev M_X10_whatIf 210 210 (some (0, q.1), rho, q.2) 23 210 rho σ [(2, (0 : Int)), (9, 0), (9, 0)] [] := by
  unfold f_X10_whatIf_23 at h
  refine ev_aload_n dX10_whatIf_23 rfl (by decide) ?_
  refine ev_bipush dX10_whatIf_24 (by decide) (by decide) ?_
  obtain ⟨v13, hc14, h⟩ := bind_of h
  refine ev_invV_v (k := (0 : Int)) (av := [(0, (-52 : Int))]) (st := []) (v := (0, v13.1)) (τ := v13.2) dX10_whatIf_26 ml_X10_90 mv_X10_refuse (T := TX10) (ci := 9) rfl sp0 (by decide) (by decide) rfl ⟨Nat.le_of_ble_eq_true rfl, Nat.le_of_ble_eq_true rfl⟩ (Nat.le_of_ble_eq_true rfl) (c_X10_refuse hc14) ?_
  obtain rfl := Option.some.inj h
  dsimp only
  exact ev_iret dX10_whatIf_29 rfl rfl
set_option maxHeartbeats 4000000 in
set_option maxRecDepth 20000 in
theorem c_X10_whatIf {σ : Mem} {x1 x2 : Int}  {q : (Int × Mem)} (h : f_X10_whatIf σ x1 x2 = some q) : Ms yX10_whatIf M_X10_whatIf 210 210 [(2, (0 : Int)), (0, x1), (0, x2)] rho σ (some (0, q.1), rho, q.2) := by
  refine Ms.of 0 (by decide +kernel) rfl (fun z => absurd z (by decide)) (fun _ _ _ => trivial) rfl rfl ?_
  unfold f_X10_whatIf at h
  show Ev M_X10_whatIf 210 210 _ 0 210 rho σ [(2, (0 : Int)), (0, x1), (0, x2)] []
  refine ev_aload_n dX10_whatIf_0 rfl (by decide) ?_
  refine ev_getf (j := 0) (t := 2) (x := (1 : Int)) dX10_whatIf_1 cf_X10 wf_X10_12 sp0 (by decide) (by decide) rfl (by decide) (rp0_0 _) ?_
  refine ev_iload_n dX10_whatIf_4 rfl ?_
  obtain ⟨v1, hc2, h⟩ := bind_of h
  refine ev_invV_v (k := (1 : Int)) (av := [(0, x1)]) (st := []) (v := (0, v1)) (τ := σ) dX10_whatIf_5 ml_X10_124 mv_X0_hasCand (T := TX0) (ci := 0) rfl sp1 (by decide) (by decide) rfl ⟨Nat.le_of_ble_eq_true rfl, Nat.le_of_ble_eq_true rfl⟩ (Nat.le_of_ble_eq_true rfl) (c_X0_hasCand hB1 hc2) ?_
  refine ev_if_eq (tgt := 23) dX10_whatIf_8 rfl h (fun cb h => ?_) (fun cb h => ?_)
  · exact ev_sub (L2 := [(2, (0 : Int)), (9, 0), (9, 0)]) (e_X10_whatIf_23 σ h) ⟨.inr rfl, .inl rfl, .inl rfl, trivial⟩
  refine ev_aload_n dX10_whatIf_11 rfl (by decide) ?_
  refine ev_getf (j := 0) (t := 2) (x := (1 : Int)) dX10_whatIf_12 cf_X10 wf_X10_12 sp0 (by decide) (by decide) rfl (by decide) (rp0_0 _) ?_
  refine ev_iload_n dX10_whatIf_15 rfl ?_
  refine ev_i2lk dX10_whatIf_16 ?_
  obtain ⟨v3, hc4, h⟩ := bind_of h
  refine ev_invV_v (k := (1 : Int)) (av := [(1, x2)]) (st := []) (v := (0, v3)) (τ := σ) dX10_whatIf_17 ml_X10_166 mv_X0_hasPaper (T := TX0) (ci := 0) rfl sp1 (by decide) (by decide) rfl ⟨Nat.le_of_ble_eq_true rfl, Nat.le_of_ble_eq_true rfl⟩ (Nat.le_of_ble_eq_true rfl) (c_X0_hasPaper hB1 hc4) ?_
  refine ev_if_ne (tgt := 30) dX10_whatIf_20 rfl h (fun cb h => ?_) (fun cb h => ?_)
  · refine ev_aload_n dX10_whatIf_30 rfl (by decide) ?_
    refine ev_getf (j := 0) (t := 2) (x := (1 : Int)) dX10_whatIf_31 cf_X10 wf_X10_12 sp0 (by decide) (by decide) rfl (by decide) (rp0_0 _) ?_
    refine ev_iload_n dX10_whatIf_34 rfl ?_
    refine ev_iload_n dX10_whatIf_35 rfl ?_
    obtain ⟨v5, hc6, h⟩ := bind_of h
    refine ev_invV_v (k := (1 : Int)) (av := [(0, x1), (0, x2)]) (st := []) (v := (0, v5)) (τ := σ) dX10_whatIf_36 ml_X10_193 mv_X0_mayFlip (T := TX0) (ci := 0) rfl sp1 (by decide) (by decide) rfl ⟨Nat.le_of_ble_eq_true rfl, Nat.le_of_ble_eq_true rfl⟩ (Nat.le_of_ble_eq_true rfl) (c_X0_mayFlip hB1 hc6) ?_
    refine ev_if_ne (tgt := 49) dX10_whatIf_39 rfl h (fun cb h => ?_) (fun cb h => ?_)
    · refine ev_aload_n dX10_whatIf_49 rfl (by decide) ?_
      refine ev_getf (j := 1) (t := 2) (x := (10 : Int)) dX10_whatIf_50 cf_X10 wf_X10_16 sp0 (by decide) (by decide) rfl (by decide) (rp0_1 _) ?_
      refine ev_aload_n dX10_whatIf_53 rfl (by decide) ?_
      refine ev_getf (j := 0) (t := 2) (x := (1 : Int)) dX10_whatIf_54 cf_X10 wf_X10_12 sp0 (by decide) (by decide) rfl (by decide) (rp0_0 _) ?_
      obtain ⟨σ7, hc8, h⟩ := bind_of h
      refine ev_invV_n (k := (10 : Int)) (av := [(2, (1 : Int))]) (st := []) (τ := σ7) dX10_whatIf_57 ml_X10_228 mv_X0_become (T := TX0) (ci := 0) rfl sp10 (by decide) (by decide) rfl ⟨Nat.le_of_ble_eq_true rfl, Nat.le_of_ble_eq_true rfl⟩ (Nat.le_of_ble_eq_true rfl) (c_X0_become hB10 hB1 hc8) ?_
      refine ev_aload_n dX10_whatIf_60 rfl (by decide) ?_
      refine ev_iload_n dX10_whatIf_61 rfl ?_
      refine ev_iload_n dX10_whatIf_62 rfl ?_
      obtain ⟨v9, hc10, h⟩ := bind_of h
      refine ev_invV_v (k := (0 : Int)) (av := [(0, x1), (0, x2)]) (st := []) (v := (0, v9.1)) (τ := v9.2) dX10_whatIf_63 ml_X10_373 mv_X10_cantsFlipped (T := TX10) (ci := 9) rfl sp0 (by decide) (by decide) rfl ⟨Nat.le_of_ble_eq_true rfl, Nat.le_of_ble_eq_true rfl⟩ (Nat.le_of_ble_eq_true rfl) (c_X10_cantsFlipped hc10) ?_
      obtain rfl := Option.some.inj h
      dsimp only
      exact ev_iret dX10_whatIf_66 rfl rfl
    refine ev_aload_n dX10_whatIf_42 rfl (by decide) ?_
    refine ev_bipush dX10_whatIf_43 (by decide) (by decide) ?_
    obtain ⟨v11, hc12, h⟩ := bind_of h
    refine ev_invV_v (k := (0 : Int)) (av := [(0, (-55 : Int))]) (st := []) (v := (0, v11.1)) (τ := v11.2) dX10_whatIf_45 ml_X10_90 mv_X10_refuse (T := TX10) (ci := 9) rfl sp0 (by decide) (by decide) rfl ⟨Nat.le_of_ble_eq_true rfl, Nat.le_of_ble_eq_true rfl⟩ (Nat.le_of_ble_eq_true rfl) (c_X10_refuse hc12) ?_
    obtain rfl := Option.some.inj h
    dsimp only
    exact ev_iret dX10_whatIf_48 rfl rfl
  exact ev_sub (L2 := [(2, (0 : Int)), (9, 0), (9, 0)]) (e_X10_whatIf_23 σ h) ⟨.inr rfl, .inl rfl, .inl rfl, trivial⟩
set_option maxHeartbeats 4000000 in
set_option maxRecDepth 20000 in
theorem e_X10_both_35 (σ : Mem)  {q : (Int × Mem)} (h : f_X10_both_35 σ  = some q) : Ev M_X10_both 210 210 (some (0, q.1), rho, q.2) 35 210 rho σ [(2, (0 : Int)), (9, 0), (9, 0), (9, 0)] [] := by
  unfold f_X10_both_35 at h
  refine ev_aload_n dX10_both_35 rfl (by decide) ?_
  refine ev_bipush dX10_both_36 (by decide) (by decide) ?_
  obtain ⟨v25, hc26, h⟩ := bind_of h
  refine ev_invV_v (k := (0 : Int)) (av := [(0, (-52 : Int))]) (st := []) (v := (0, v25.1)) (τ := v25.2) dX10_both_38 ml_X10_90 mv_X10_refuse (T := TX10) (ci := 9) rfl sp0 (by decide) (by decide) rfl ⟨Nat.le_of_ble_eq_true rfl, Nat.le_of_ble_eq_true rfl⟩ (Nat.le_of_ble_eq_true rfl) (c_X10_refuse hc26) ?_
  obtain rfl := Option.some.inj h
  dsimp only
  exact ev_iret dX10_both_41 rfl rfl
set_option maxHeartbeats 4000000 in
set_option maxRecDepth 20000 in
theorem c_X10_both {σ : Mem} {x1 x2 x3 : Int}  {q : (Int × Mem)} (h : f_X10_both σ x1 x2 x3 = some q) : Ms yX10_both M_X10_both 210 210 [(2, (0 : Int)), (0, x1), (0, x2), (0, x3)] rho σ (some (0, q.1), rho, q.2) := by
  refine Ms.of 0 (by decide +kernel) rfl (fun z => absurd z (by decide)) (fun _ _ _ => trivial) rfl rfl ?_
  unfold f_X10_both at h
  show Ev M_X10_both 210 210 _ 0 210 rho σ [(2, (0 : Int)), (0, x1), (0, x2), (0, x3)] []
  refine ev_aload_n dX10_both_0 rfl (by decide) ?_
  refine ev_getf (j := 0) (t := 2) (x := (1 : Int)) dX10_both_1 cf_X10 wf_X10_12 sp0 (by decide) (by decide) rfl (by decide) (rp0_0 _) ?_
  refine ev_iload_n dX10_both_4 rfl ?_
  obtain ⟨v1, hc2, h⟩ := bind_of h
  refine ev_invV_v (k := (1 : Int)) (av := [(0, x1)]) (st := []) (v := (0, v1)) (τ := σ) dX10_both_5 ml_X10_124 mv_X0_hasCand (T := TX0) (ci := 0) rfl sp1 (by decide) (by decide) rfl ⟨Nat.le_of_ble_eq_true rfl, Nat.le_of_ble_eq_true rfl⟩ (Nat.le_of_ble_eq_true rfl) (c_X0_hasCand hB1 hc2) ?_
  refine ev_if_eq (tgt := 35) dX10_both_8 rfl h (fun cb h => ?_) (fun cb h => ?_)
  · exact ev_sub (L2 := [(2, (0 : Int)), (9, 0), (9, 0), (9, 0)]) (e_X10_both_35 σ h) ⟨.inr rfl, .inl rfl, .inl rfl, .inl rfl, trivial⟩
  refine ev_aload_n dX10_both_11 rfl (by decide) ?_
  refine ev_getf (j := 0) (t := 2) (x := (1 : Int)) dX10_both_12 cf_X10 wf_X10_12 sp0 (by decide) (by decide) rfl (by decide) (rp0_0 _) ?_
  refine ev_iload_n dX10_both_15 rfl ?_
  refine ev_i2lk dX10_both_16 ?_
  obtain ⟨v3, hc4, h⟩ := bind_of h
  refine ev_invV_v (k := (1 : Int)) (av := [(1, x2)]) (st := []) (v := (0, v3)) (τ := σ) dX10_both_17 ml_X10_166 mv_X0_hasPaper (T := TX0) (ci := 0) rfl sp1 (by decide) (by decide) rfl ⟨Nat.le_of_ble_eq_true rfl, Nat.le_of_ble_eq_true rfl⟩ (Nat.le_of_ble_eq_true rfl) (c_X0_hasPaper hB1 hc4) ?_
  refine ev_if_eq (tgt := 35) dX10_both_20 rfl h (fun cb h => ?_) (fun cb h => ?_)
  · exact ev_sub (L2 := [(2, (0 : Int)), (9, 0), (9, 0), (9, 0)]) (e_X10_both_35 σ h) ⟨.inr rfl, .inl rfl, .inl rfl, .inl rfl, trivial⟩
  refine ev_aload_n dX10_both_23 rfl (by decide) ?_
  refine ev_getf (j := 0) (t := 2) (x := (1 : Int)) dX10_both_24 cf_X10 wf_X10_12 sp0 (by decide) (by decide) rfl (by decide) (rp0_0 _) ?_
  refine ev_iload_n dX10_both_27 rfl ?_
  refine ev_i2lk dX10_both_28 ?_
  obtain ⟨v5, hc6, h⟩ := bind_of h
  refine ev_invV_v (k := (1 : Int)) (av := [(1, x3)]) (st := []) (v := (0, v5)) (τ := σ) dX10_both_29 ml_X10_166 mv_X0_hasPaper (T := TX0) (ci := 0) rfl sp1 (by decide) (by decide) rfl ⟨Nat.le_of_ble_eq_true rfl, Nat.le_of_ble_eq_true rfl⟩ (Nat.le_of_ble_eq_true rfl) (c_X0_hasPaper hB1 hc6) ?_
  refine ev_if_ne (tgt := 42) dX10_both_32 rfl h (fun cb h => ?_) (fun cb h => ?_)
  · refine ev_aload_n dX10_both_42 rfl (by decide) ?_
    refine ev_getf (j := 1) (t := 2) (x := (10 : Int)) dX10_both_43 cf_X10 wf_X10_16 sp0 (by decide) (by decide) rfl (by decide) (rp0_1 _) ?_
    refine ev_aload_n dX10_both_46 rfl (by decide) ?_
    refine ev_getf (j := 0) (t := 2) (x := (1 : Int)) dX10_both_47 cf_X10 wf_X10_12 sp0 (by decide) (by decide) rfl (by decide) (rp0_0 _) ?_
    obtain ⟨σ7, hc8, h⟩ := bind_of h
    refine ev_invV_n (k := (10 : Int)) (av := [(2, (1 : Int))]) (st := []) (τ := σ7) dX10_both_50 ml_X10_228 mv_X0_become (T := TX0) (ci := 0) rfl sp10 (by decide) (by decide) rfl ⟨Nat.le_of_ble_eq_true rfl, Nat.le_of_ble_eq_true rfl⟩ (Nat.le_of_ble_eq_true rfl) (c_X0_become hB10 hB1 hc8) ?_
    refine ev_aload_n dX10_both_53 rfl (by decide) ?_
    refine ev_getf (j := 1) (t := 2) (x := (10 : Int)) dX10_both_54 cf_X10 wf_X10_16 sp0 (by decide) (by decide) rfl (by decide) (rp0_1 _) ?_
    refine ev_iload_n dX10_both_57 rfl ?_
    refine ev_iload_n dX10_both_58 rfl ?_
    obtain ⟨v9, hc10, h⟩ := bind_of h
    refine ev_invV_v (k := (10 : Int)) (av := [(0, x1), (0, x2)]) (st := []) (v := (0, v9)) (τ := σ7) dX10_both_59 ml_X10_193 mv_X0_mayFlip (T := TX0) (ci := 0) rfl sp10 (by decide) (by decide) rfl ⟨Nat.le_of_ble_eq_true rfl, Nat.le_of_ble_eq_true rfl⟩ (Nat.le_of_ble_eq_true rfl) (c_X0_mayFlip hB10 hc10) ?_
    refine ev_if_ne (tgt := 72) dX10_both_62 rfl h (fun cb h => ?_) (fun cb h => ?_)
    · refine ev_aload_n dX10_both_72 rfl (by decide) ?_
      refine ev_getf (j := 1) (t := 2) (x := (10 : Int)) dX10_both_73 cf_X10 wf_X10_16 sp0 (by decide) (by decide) rfl (by decide) (rp0_1 _) ?_
      refine ev_iload_n dX10_both_76 rfl ?_
      refine ev_iload_n dX10_both_77 rfl ?_
      obtain ⟨σ11, hc12, h⟩ := bind_of h
      refine ev_invV_n (k := (10 : Int)) (av := [(0, x1), (0, x2)]) (st := []) (τ := σ11) dX10_both_78 ml_X10_196 mv_X0_flip (T := TX0) (ci := 0) rfl sp10 (by decide) (by decide) rfl ⟨Nat.le_of_ble_eq_true rfl, Nat.le_of_ble_eq_true rfl⟩ (Nat.le_of_ble_eq_true rfl) (c_X0_flip hB10 hc12) ?_
      refine ev_aload_n dX10_both_81 rfl (by decide) ?_
      refine ev_getf (j := 1) (t := 2) (x := (10 : Int)) dX10_both_82 cf_X10 wf_X10_16 sp0 (by decide) (by decide) rfl (by decide) (rp0_1 _) ?_
      refine ev_iload_n dX10_both_85 rfl ?_
      refine ev_iload_n dX10_both_86 rfl ?_
      obtain ⟨v13, hc14, h⟩ := bind_of h
      refine ev_invV_v (k := (10 : Int)) (av := [(0, x1), (0, x3)]) (st := []) (v := (0, v13)) (τ := σ11) dX10_both_87 ml_X10_193 mv_X0_mayFlip (T := TX0) (ci := 0) rfl sp10 (by decide) (by decide) rfl ⟨Nat.le_of_ble_eq_true rfl, Nat.le_of_ble_eq_true rfl⟩ (Nat.le_of_ble_eq_true rfl) (c_X0_mayFlip hB10 hc14) ?_
      refine ev_if_ne (tgt := 100) dX10_both_90 rfl h (fun cb h => ?_) (fun cb h => ?_)
      · refine ev_aload_n dX10_both_100 rfl (by decide) ?_
        refine ev_getf (j := 1) (t := 2) (x := (10 : Int)) dX10_both_101 cf_X10 wf_X10_16 sp0 (by decide) (by decide) rfl (by decide) (rp0_1 _) ?_
        refine ev_iload_n dX10_both_104 rfl ?_
        refine ev_iload_n dX10_both_105 rfl ?_
        obtain ⟨σ15, hc16, h⟩ := bind_of h
        refine ev_invV_n (k := (10 : Int)) (av := [(0, x1), (0, x3)]) (st := []) (τ := σ15) dX10_both_106 ml_X10_196 mv_X0_flip (T := TX0) (ci := 0) rfl sp10 (by decide) (by decide) rfl ⟨Nat.le_of_ble_eq_true rfl, Nat.le_of_ble_eq_true rfl⟩ (Nat.le_of_ble_eq_true rfl) (c_X0_flip hB10 hc16) ?_
        refine ev_aload_n dX10_both_109 rfl (by decide) ?_
        refine ev_getf (j := 7) (t := 2) (x := (35 : Int)) dX10_both_110 cf_X10 wf_X10_43 sp0 (by decide) (by decide) rfl (by decide) (rp0_7 _) ?_
        refine ev_aload_n dX10_both_113 rfl (by decide) ?_
        refine ev_getf (j := 1) (t := 2) (x := (10 : Int)) dX10_both_114 cf_X10 wf_X10_16 sp0 (by decide) (by decide) rfl (by decide) (rp0_1 _) ?_
        refine ev_iload_n dX10_both_117 rfl ?_
        refine ev_aload_n dX10_both_118 rfl (by decide) ?_
        show Ev _ _ _ _ 119 _ _ _ _ _
        refine ev_getf (j := 9) (t := 2) (x := (146 : Int)) dX10_both_119 cf_X10 wf_X10_59 sp0 (by decide) (by decide) rfl (by decide) (rp0_9 _) ?_
        obtain ⟨σ17, hc18, h⟩ := bind_of h
        refine ev_invV_n (k := (35 : Int)) (av := [(2, (10 : Int)), (0, x1), (2, (146 : Int))]) (st := []) (τ := σ17) dX10_both_122 ml_X10_376 mv_X4_planWeek (T := TX4) (ci := 3) rfl sp35 (by decide) (by decide) rfl ⟨Nat.le_of_ble_eq_true rfl, Nat.le_of_ble_eq_true rfl⟩ (Nat.le_of_ble_eq_true rfl) (c_X4_planWeek hB10 hW146 hc18) ?_
        refine ev_aload_n dX10_both_125 rfl (by decide) ?_
        refine ev_getf (j := 9) (t := 2) (x := (146 : Int)) dX10_both_126 cf_X10 wf_X10_59 sp0 (by decide) (by decide) rfl (by decide) (rp0_9 _) ?_
        obtain ⟨v19, hc20, h⟩ := bind_of h
        refine ev_invV_v (k := (146 : Int)) (av := []) (st := []) (v := (0, v19)) (τ := σ17) dX10_both_129 ml_X10_380 mv_X8_keptSlots (T := TX8) (ci := 7) rfl sp146 (by decide) (by decide) rfl ⟨Nat.le_of_ble_eq_true rfl, Nat.le_of_ble_eq_true rfl⟩ (Nat.le_of_ble_eq_true rfl) (c_X8_keptSlots hW146 hc20) ?_
        obtain rfl := Option.some.inj h
        dsimp only
        exact ev_iret dX10_both_132 rfl rfl
      refine ev_aload_n dX10_both_93 rfl (by decide) ?_
      refine ev_bipush dX10_both_94 (by decide) (by decide) ?_
      obtain ⟨v21, hc22, h⟩ := bind_of h
      refine ev_invV_v (k := (0 : Int)) (av := [(0, (-55 : Int))]) (st := []) (v := (0, v21.1)) (τ := v21.2) dX10_both_96 ml_X10_90 mv_X10_refuse (T := TX10) (ci := 9) rfl sp0 (by decide) (by decide) rfl ⟨Nat.le_of_ble_eq_true rfl, Nat.le_of_ble_eq_true rfl⟩ (Nat.le_of_ble_eq_true rfl) (c_X10_refuse hc22) ?_
      obtain rfl := Option.some.inj h
      dsimp only
      exact ev_iret dX10_both_99 rfl rfl
    refine ev_aload_n dX10_both_65 rfl (by decide) ?_
    refine ev_bipush dX10_both_66 (by decide) (by decide) ?_
    obtain ⟨v23, hc24, h⟩ := bind_of h
    refine ev_invV_v (k := (0 : Int)) (av := [(0, (-55 : Int))]) (st := []) (v := (0, v23.1)) (τ := v23.2) dX10_both_68 ml_X10_90 mv_X10_refuse (T := TX10) (ci := 9) rfl sp0 (by decide) (by decide) rfl ⟨Nat.le_of_ble_eq_true rfl, Nat.le_of_ble_eq_true rfl⟩ (Nat.le_of_ble_eq_true rfl) (c_X10_refuse hc24) ?_
    obtain rfl := Option.some.inj h
    dsimp only
    exact ev_iret dX10_both_71 rfl rfl
  exact ev_sub (L2 := [(2, (0 : Int)), (9, 0), (9, 0), (9, 0)]) (e_X10_both_35 σ h) ⟨.inr rfl, .inl rfl, .inl rfl, .inl rfl, trivial⟩
def K_X10_relief_36 (x1 : Int) (r : Option V × Mem × Mem) : (Int × Int × Int × Mem) ⊕ ((Int × Mem)) → Prop := Sum.elim (fun a => Ev M_X10_relief 210 210 r 36 210 rho a.2.2.2 [(2, (0 : Int)), (0, x1), (0, a.1), (0, a.2.1), (0, a.2.2.1), (9, 0)] []) (fun e => Ev M_X10_relief 210 210 r 93 210 rho e.2 [(9, 0), (9, 0), (0, e.1), (9, 0), (9, 0), (9, 0)] [])
set_option maxHeartbeats 4000000 in
set_option maxRecDepth 20000 in
theorem e_X10_relief_87 (σ : Mem) (x1 x2 x3 x4 : Int)  {q : ((Int × Int × Int × Mem) ⊕ ((Int × Mem)))} (h : f_X10_relief_87 σ x1 x2 x3 x4 = some q) {r : Option V × Mem × Mem} (K : K_X10_relief_36 x1 r q) : Ev M_X10_relief 210 210 r 87 210 rho σ [(2, (0 : Int)), (0, x1), (0, x2), (0, x3), (0, x4), (9, 0)] [] := by
  unfold f_X10_relief_87 at h
  refine ev_iincG dX10_relief_87 rfl h rfl (fun v12 h => ?_)
  show Ev _ _ _ _ 90 _ _ _ [(2, (0 : Int)), (0, x1), (0, x2), (0, x3), (0, v12), (9, 0)] _
  refine ev_goto (tgt := 36) dX10_relief_90 rfl ?_
  obtain rfl := Option.some.inj h
  exact ev_sub (L2 := [(2, (0 : Int)), (0, x1), (0, x2), (0, x3), (0, v12), (9, 0)]) K ⟨.inr rfl, .inr rfl, .inr rfl, .inr rfl, .inr rfl, .inl rfl, trivial⟩
set_option maxHeartbeats 4000000 in
set_option maxRecDepth 20000 in
theorem e_X10_relief_81 (σ : Mem) (x1 x4 x5 : Int)  {q : ((Int × Int × Int × Mem) ⊕ ((Int × Mem)))} (h : f_X10_relief_81 σ x1 x4 x5 = some q) {r : Option V × Mem × Mem} (K : K_X10_relief_36 x1 r q) : Ev M_X10_relief 210 210 r 81 210 rho σ [(2, (0 : Int)), (0, x1), (9, 0), (9, 0), (0, x4), (0, x5)] [] := by
  unfold f_X10_relief_81 at h
  refine ev_iload dX10_relief_81 rfl ?_
  refine ev_istore_n dX10_relief_83 rfl (by decide) ?_
  show Ev _ _ _ _ 84 _ _ _ [(2, (0 : Int)), (0, x1), (0, x4), (9, 0), (0, x4), (0, x5)] _
  refine ev_iload dX10_relief_84 rfl ?_
  refine ev_istore_n dX10_relief_86 rfl (by decide) ?_
  show Ev _ _ _ _ 87 _ _ _ [(2, (0 : Int)), (0, x1), (0, x4), (0, x5), (0, x4), (0, x5)] _
  exact ev_sub (L2 := [(2, (0 : Int)), (0, x1), (0, x4), (0, x5), (0, x4), (9, 0)]) (e_X10_relief_87 σ x1 x4 x5 x4 h K) ⟨.inr rfl, .inr rfl, .inr rfl, .inr rfl, .inr rfl, .inl rfl, trivial⟩
set_option maxHeartbeats 4000000 in
set_option maxRecDepth 20000 in
theorem b_X10_relief_36 (x1 : Int)  {r : Option V × Mem × Mem} : ∀ a x, f_X10_relief_36B x1 a = some x → K_X10_relief_36 x1 r x → K_X10_relief_36 x1 r (.inl a) := by
  intro a x h K
  obtain ⟨x2, x3, x4, σ⟩ := a
  have h : f_X10_relief_36C x1 x2 x3 x4 σ = some x := h
  unfold f_X10_relief_36C at h
  show Ev M_X10_relief 210 210 r 36 210 rho σ [(2, (0 : Int)), (0, x1), (0, x2), (0, x3), (0, x4), (9, 0)] []
  refine ev_iload dX10_relief_36 rfl ?_
  refine ev_aload_n dX10_relief_38 rfl (by decide) ?_
  refine ev_getf (j := 1) (t := 2) (x := (10 : Int)) dX10_relief_39 cf_X10 wf_X10_16 sp0 (by decide) (by decide) rfl (by decide) (rp0_1 _) ?_
  refine ev_getf (j := 8) (t := 0) (x := (σ (10 : Int) 8)) dX10_relief_42 cf_X0 wf_X10_158 sp10 (by decide) (by decide) rfl (by decide) rfl ?_
  refine ev_icmp_ge (tgt := 93) dX10_relief_45 rfl h (fun cb h => ?_) (fun cb h => ?_)
  · obtain rfl := Option.some.inj h
    exact ev_sub (L2 := [(9, 0), (9, 0), (0, x2), (9, 0), (9, 0), (9, 0)]) K ⟨.inl rfl, .inl rfl, .inr rfl, .inl rfl, .inl rfl, .inl rfl, trivial⟩
  refine ev_aload_n dX10_relief_48 rfl (by decide) ?_
  refine ev_getf (j := 1) (t := 2) (x := (10 : Int)) dX10_relief_49 cf_X10 wf_X10_16 sp0 (by decide) (by decide) rfl (by decide) (rp0_1 _) ?_
  refine ev_iload_n dX10_relief_52 rfl ?_
  refine ev_iload dX10_relief_53 rfl ?_
  obtain ⟨v7, hc8, h⟩ := bind_of h
  refine ev_invV_v (k := (10 : Int)) (av := [(0, x1), (0, x4)]) (st := []) (v := (0, v7)) (τ := σ) dX10_relief_55 ml_X10_193 mv_X0_mayFlip (T := TX0) (ci := 0) rfl sp10 (by decide) (by decide) rfl ⟨Nat.le_of_ble_eq_true rfl, Nat.le_of_ble_eq_true rfl⟩ (Nat.le_of_ble_eq_true rfl) (c_X0_mayFlip hB10 hc8) ?_
  refine ev_if_eq (tgt := 87) dX10_relief_58 rfl h (fun cb h => ?_) (fun cb h => ?_)
  · exact ev_sub (L2 := [(2, (0 : Int)), (0, x1), (0, x2), (0, x3), (0, x4), (9, 0)]) (e_X10_relief_87 σ x1 x2 x3 x4 h K) ⟨.inr rfl, .inr rfl, .inr rfl, .inr rfl, .inr rfl, .inl rfl, trivial⟩
  refine ev_aload_n dX10_relief_61 rfl (by decide) ?_
  refine ev_iload_n dX10_relief_62 rfl ?_
  refine ev_iload dX10_relief_63 rfl ?_
  obtain ⟨v9, hc10, h⟩ := bind_of h
  refine ev_invV_v (k := (0 : Int)) (av := [(0, x1), (0, x4)]) (st := []) (v := (0, v9.1)) (τ := v9.2) dX10_relief_65 ml_X10_373 mv_X10_cantsFlipped (T := TX10) (ci := 9) rfl sp0 (by decide) (by decide) rfl ⟨Nat.le_of_ble_eq_true rfl, Nat.le_of_ble_eq_true rfl⟩ (Nat.le_of_ble_eq_true rfl) (c_X10_cantsFlipped hc10) ?_
  refine ev_istoreG dX10_relief_68 h rfl (by decide) (fun v11 h => ?_)
  show Ev _ _ _ _ 70 _ _ _ [(2, (0 : Int)), (0, x1), (0, x2), (0, x3), (0, x4), (0, v11)] _
  refine ev_iload_n dX10_relief_70 rfl ?_
  refine ev_iconst dX10_relief_71 (by decide) ?_
  refine ev_icmp_eq (tgt := 81) dX10_relief_72 rfl h (fun cb h => ?_) (fun cb h => ?_)
  · exact ev_sub (L2 := [(2, (0 : Int)), (0, x1), (9, 0), (9, 0), (0, x4), (0, v11)]) (e_X10_relief_81 v9.2 x1 x4 v11 h K) ⟨.inr rfl, .inr rfl, .inl rfl, .inl rfl, .inr rfl, .inr rfl, trivial⟩
  refine ev_iload dX10_relief_75 rfl ?_
  refine ev_iload_n dX10_relief_77 rfl ?_
  refine ev_icmp_ge (tgt := 87) dX10_relief_78 rfl h (fun cb h => ?_) (fun cb h => ?_)
  · exact ev_sub (L2 := [(2, (0 : Int)), (0, x1), (0, x2), (0, x3), (0, x4), (9, 0)]) (e_X10_relief_87 v9.2 x1 x2 x3 x4 h K) ⟨.inr rfl, .inr rfl, .inr rfl, .inr rfl, .inr rfl, .inl rfl, trivial⟩
  exact ev_sub (L2 := [(2, (0 : Int)), (0, x1), (9, 0), (9, 0), (0, x4), (0, v11)]) (e_X10_relief_81 v9.2 x1 x4 v11 h K) ⟨.inr rfl, .inr rfl, .inl rfl, .inl rfl, .inr rfl, .inr rfl, trivial⟩
set_option maxHeartbeats 4000000 in
set_option maxRecDepth 20000 in
theorem e_X10_relief_36 (σ : Mem) (x1 x2 x3 x4 : Int)  {q : (Int × Mem)} (h : f_X10_relief_36 σ x1 x2 x3 x4 = some q) : Ev M_X10_relief 210 210 (some (0, q.1), rho, q.2) 36 210 rho σ [(2, (0 : Int)), (0, x1), (0, x2), (0, x3), (0, x4), (9, 0)] [] := by
  unfold f_X10_relief_36 at h
  obtain ⟨e, hl, h⟩ := bind_of h
  refine loop_ev (K := K_X10_relief_36 x1 (some (0, q.1), rho, q.2)) (b_X10_relief_36 x1) FU (x2, x3, x4, σ) e hl ?_
  show Ev M_X10_relief 210 210 _ 93 210 rho e.2 [(9, 0), (9, 0), (0, e.1), (9, 0), (9, 0), (9, 0)] []
  replace h : some (e.1, e.2) = some q := h
  refine ev_iload_n dX10_relief_93 rfl ?_
  obtain rfl := Option.some.inj h
  dsimp only
  exact ev_iret dX10_relief_94 rfl rfl
set_option maxHeartbeats 4000000 in
set_option maxRecDepth 20000 in
theorem c_X10_relief {σ : Mem} {x1 : Int}  {q : (Int × Mem)} (h : f_X10_relief σ x1 = some q) : Ms yX10_relief M_X10_relief 210 210 [(2, (0 : Int)), (0, x1)] rho σ (some (0, q.1), rho, q.2) := by
  refine Ms.of 4 (by decide +kernel) rfl (fun z => absurd z (by decide)) (fun _ _ _ => trivial) rfl rfl ?_
  unfold f_X10_relief at h
  show Ev M_X10_relief 210 210 _ 0 210 rho σ [(2, (0 : Int)), (0, x1), (9, 0), (9, 0), (9, 0), (9, 0)] []
  refine ev_aload_n dX10_relief_0 rfl (by decide) ?_
  refine ev_getf (j := 0) (t := 2) (x := (1 : Int)) dX10_relief_1 cf_X10 wf_X10_12 sp0 (by decide) (by decide) rfl (by decide) (rp0_0 _) ?_
  refine ev_iload_n dX10_relief_4 rfl ?_
  obtain ⟨v1, hc2, h⟩ := bind_of h
  refine ev_invV_v (k := (1 : Int)) (av := [(0, x1)]) (st := []) (v := (0, v1)) (τ := σ) dX10_relief_5 ml_X10_124 mv_X0_hasCand (T := TX0) (ci := 0) rfl sp1 (by decide) (by decide) rfl ⟨Nat.le_of_ble_eq_true rfl, Nat.le_of_ble_eq_true rfl⟩ (Nat.le_of_ble_eq_true rfl) (c_X0_hasCand hB1 hc2) ?_
  refine ev_if_ne (tgt := 18) dX10_relief_8 rfl h (fun cb h => ?_) (fun cb h => ?_)
  · refine ev_aload_n dX10_relief_18 rfl (by decide) ?_
    refine ev_getf (j := 1) (t := 2) (x := (10 : Int)) dX10_relief_19 cf_X10 wf_X10_16 sp0 (by decide) (by decide) rfl (by decide) (rp0_1 _) ?_
    refine ev_aload_n dX10_relief_22 rfl (by decide) ?_
    refine ev_getf (j := 0) (t := 2) (x := (1 : Int)) dX10_relief_23 cf_X10 wf_X10_12 sp0 (by decide) (by decide) rfl (by decide) (rp0_0 _) ?_
    obtain ⟨σ3, hc4, h⟩ := bind_of h
    refine ev_invV_n (k := (10 : Int)) (av := [(2, (1 : Int))]) (st := []) (τ := σ3) dX10_relief_26 ml_X10_228 mv_X0_become (T := TX0) (ci := 0) rfl sp10 (by decide) (by decide) rfl ⟨Nat.le_of_ble_eq_true rfl, Nat.le_of_ble_eq_true rfl⟩ (Nat.le_of_ble_eq_true rfl) (c_X0_become hB10 hB1 hc4) ?_
    refine ev_iconst dX10_relief_29 (by decide) ?_
    refine ev_istore_n dX10_relief_30 rfl (by decide) ?_
    show Ev _ _ _ _ 31 _ _ _ [(2, (0 : Int)), (0, x1), (0, (-1 : Int)), (9, 0), (9, 0), (9, 0)] _
    refine ev_iconst dX10_relief_31 (by decide) ?_
    refine ev_istore_n dX10_relief_32 rfl (by decide) ?_
    show Ev _ _ _ _ 33 _ _ _ [(2, (0 : Int)), (0, x1), (0, (-1 : Int)), (0, (0 : Int)), (9, 0), (9, 0)] _
    refine ev_iconst dX10_relief_33 (by decide) ?_
    refine ev_istore dX10_relief_34 rfl (by decide) ?_
    show Ev _ _ _ _ 36 _ _ _ [(2, (0 : Int)), (0, x1), (0, (-1 : Int)), (0, (0 : Int)), (0, (0 : Int)), (9, 0)] _
    exact ev_sub (L2 := [(2, (0 : Int)), (0, x1), (0, (-1 : Int)), (0, (0 : Int)), (0, (0 : Int)), (9, 0)]) (e_X10_relief_36 σ3 x1 (-1 : Int) (0 : Int) (0 : Int) h) ⟨.inr rfl, .inr rfl, .inr rfl, .inr rfl, .inr rfl, .inl rfl, trivial⟩
  refine ev_aload_n dX10_relief_11 rfl (by decide) ?_
  refine ev_bipush dX10_relief_12 (by decide) (by decide) ?_
  obtain ⟨v5, hc6, h⟩ := bind_of h
  refine ev_invV_v (k := (0 : Int)) (av := [(0, (-52 : Int))]) (st := []) (v := (0, v5.1)) (τ := v5.2) dX10_relief_14 ml_X10_90 mv_X10_refuse (T := TX10) (ci := 9) rfl sp0 (by decide) (by decide) rfl ⟨Nat.le_of_ble_eq_true rfl, Nat.le_of_ble_eq_true rfl⟩ (Nat.le_of_ble_eq_true rfl) (c_X10_refuse hc6) ?_
  obtain rfl := Option.some.inj h
  dsimp only
  exact ev_iret dX10_relief_17 rfl rfl
def K_X10_tryStarts_45 (x1 x2 : Int) (r : Option V × Mem × Mem) : (Int × Mem) ⊕ ((Mem)) → Prop := Sum.elim (fun a => Ev M_X10_tryStarts 210 210 r 45 210 rho a.2 [(2, (0 : Int)), (0, x1), (0, x2), (0, a.1)] []) (fun e => Ev M_X10_tryStarts 210 210 r 146 210 rho e [(2, (0 : Int)), (0, x1), (0, x2), (9, 0)] [])
def K_X10_tryStarts_13 (x1 : Int) (r : Option V × Mem × Mem) : (Int × Mem) ⊕ ((Mem)) → Prop := Sum.elim (fun a => Ev M_X10_tryStarts 210 210 r 13 210 rho a.2 [(2, (0 : Int)), (0, x1), (0, a.1), (9, 0)] []) (fun e => Ev M_X10_tryStarts 210 210 r 152 210 rho e [(9, 0), (9, 0), (9, 0), (9, 0)] [])
set_option maxHeartbeats 4000000 in
set_option maxRecDepth 20000 in
theorem e_X10_tryStarts_140 (σ : Mem) (x1 x2 x3 : Int)  {q : ((Int × Mem) ⊕ ((Mem)))} (h : f_X10_tryStarts_140 σ x1 x2 x3 = some q) {r : Option V × Mem × Mem} (K : K_X10_tryStarts_45 x1 x2 r q) : Ev M_X10_tryStarts 210 210 r 140 210 rho σ [(2, (0 : Int)), (0, x1), (0, x2), (0, x3)] [] := by
  unfold f_X10_tryStarts_140 at h
  refine ev_iincG dX10_tryStarts_140 rfl h rfl (fun v21 h => ?_)
  show Ev _ _ _ _ 143 _ _ _ [(2, (0 : Int)), (0, x1), (0, x2), (0, v21)] _
  refine ev_goto (tgt := 45) dX10_tryStarts_143 rfl ?_
  obtain rfl := Option.some.inj h
  exact ev_sub (L2 := [(2, (0 : Int)), (0, x1), (0, x2), (0, v21)]) K ⟨.inr rfl, .inr rfl, .inr rfl, .inr rfl, trivial⟩
set_option maxHeartbeats 4000000 in
set_option maxRecDepth 20000 in
theorem e_X10_tryStarts_146 (σ : Mem) (x1 x2 : Int)  {q : ((Int × Mem) ⊕ ((Mem)))} (h : f_X10_tryStarts_146 σ x1 x2 = some q) {r : Option V × Mem × Mem} (K : K_X10_tryStarts_13 x1 r q) : Ev M_X10_tryStarts 210 210 r 146 210 rho σ [(2, (0 : Int)), (0, x1), (0, x2), (9, 0)] [] := by
  unfold f_X10_tryStarts_146 at h
  refine ev_iincG dX10_tryStarts_146 rfl h rfl (fun v22 h => ?_)
  show Ev _ _ _ _ 149 _ _ _ [(2, (0 : Int)), (0, x1), (0, v22), (9, 0)] _
  refine ev_goto (tgt := 13) dX10_tryStarts_149 rfl ?_
  obtain rfl := Option.some.inj h
  exact ev_sub (L2 := [(2, (0 : Int)), (0, x1), (0, v22), (9, 0)]) K ⟨.inr rfl, .inr rfl, .inr rfl, .inl rfl, trivial⟩
set_option maxHeartbeats 4000000 in
set_option maxRecDepth 20000 in
theorem b_X10_tryStarts_45 (x1 x2 : Int)  {r : Option V × Mem × Mem} : ∀ a x, f_X10_tryStarts_45B x1 x2 a = some x → K_X10_tryStarts_45 x1 x2 r x → K_X10_tryStarts_45 x1 x2 r (.inl a) := by
  intro a x h K
  obtain ⟨x3, σ⟩ := a
  have h : f_X10_tryStarts_45C x1 x2 x3 σ = some x := h
  unfold f_X10_tryStarts_45C at h
  show Ev M_X10_tryStarts 210 210 r 45 210 rho σ [(2, (0 : Int)), (0, x1), (0, x2), (0, x3)] []
  refine ev_iload_n dX10_tryStarts_45 rfl ?_
  refine ev_aload_n dX10_tryStarts_46 rfl (by decide) ?_
  refine ev_getf (j := 1) (t := 2) (x := (10 : Int)) dX10_tryStarts_47 cf_X10 wf_X10_16 sp0 (by decide) (by decide) rfl (by decide) (rp0_1 _) ?_
  refine ev_getf (j := 9) (t := 0) (x := (σ (10 : Int) 9)) dX10_tryStarts_50 cf_X0 wf_X10_176 sp10 (by decide) (by decide) rfl (by decide) rfl ?_
  refine ev_icmp_ge (tgt := 146) dX10_tryStarts_53 rfl h (fun cb h => ?_) (fun cb h => ?_)
  · obtain rfl := Option.some.inj h
    exact ev_sub (L2 := [(2, (0 : Int)), (0, x1), (0, x2), (9, 0)]) K ⟨.inr rfl, .inr rfl, .inr rfl, .inl rfl, trivial⟩
  refine ev_aload_n dX10_tryStarts_56 rfl (by decide) ?_
  refine ev_getf (j := 1) (t := 2) (x := (10 : Int)) dX10_tryStarts_57 cf_X10 wf_X10_16 sp0 (by decide) (by decide) rfl (by decide) (rp0_1 _) ?_
  refine ev_iload_n dX10_tryStarts_60 rfl ?_
  refine ev_iload_n dX10_tryStarts_61 rfl ?_
  obtain ⟨v6, hc7, h⟩ := bind_of h
  refine ev_invV_v (k := (10 : Int)) (av := [(0, x3), (0, x1)]) (st := []) (v := (0, v6)) (τ := σ) dX10_tryStarts_62 ml_X10_190 mv_X0_doesTake (T := TX0) (ci := 0) rfl sp10 (by decide) (by decide) rfl ⟨Nat.le_of_ble_eq_true rfl, Nat.le_of_ble_eq_true rfl⟩ (Nat.le_of_ble_eq_true rfl) (c_X0_doesTake hB10 hc7) ?_
  refine ev_if_eq (tgt := 140) dX10_tryStarts_65 rfl h (fun cb h => ?_) (fun cb h => ?_)
  · exact ev_sub (L2 := [(2, (0 : Int)), (0, x1), (0, x2), (0, x3)]) (e_X10_tryStarts_140 σ x1 x2 x3 h K) ⟨.inr rfl, .inr rfl, .inr rfl, .inr rfl, trivial⟩
  refine ev_aload_n dX10_tryStarts_68 rfl (by decide) ?_
  refine ev_getf (j := 9) (t := 2) (x := (146 : Int)) dX10_tryStarts_69 cf_X10 wf_X10_59 sp0 (by decide) (by decide) rfl (by decide) (rp0_9 _) ?_
  refine ev_aload_n dX10_tryStarts_72 rfl (by decide) ?_
  refine ev_getf (j := 8) (t := 2) (x := (43 : Int)) dX10_tryStarts_73 cf_X10 wf_X10_52 sp0 (by decide) (by decide) rfl (by decide) (rp0_8 _) ?_
  refine ev_iload_n dX10_tryStarts_76 rfl ?_
  obtain ⟨v8, hc9, h⟩ := bind_of h
  refine ev_invV_v (k := (43 : Int)) (av := [(0, x3)]) (st := [(2, (146 : Int))]) (v := (2, v8.1)) (τ := v8.2) dX10_tryStarts_77 ml_X10_245 mv_X9_of (T := TX9) (ci := 8) rfl sp43 (by decide) (by decide) rfl ⟨Nat.le_of_ble_eq_true rfl, Nat.le_of_ble_eq_true rfl⟩ (Nat.le_of_ble_eq_true rfl) (c_X9_of hc9) ?_
  have hw10 := w_X9_of hc9
  obtain ⟨σ11, hc12, h⟩ := bind_of h
  refine ev_invV_n (k := (146 : Int)) (av := [(2, v8.1)]) (st := []) (τ := σ11) dX10_tryStarts_80 ml_X10_427 mv_X8_become (T := TX8) (ci := 7) rfl sp146 (by decide) (by decide) rfl ⟨Nat.le_of_ble_eq_true rfl, Nat.le_of_ble_eq_true rfl⟩ (Nat.le_of_ble_eq_true rfl) (c_X8_become hW146 hw10 hc12) ?_
  refine ev_aload_n dX10_tryStarts_83 rfl (by decide) ?_
  refine ev_getf (j := 7) (t := 2) (x := (35 : Int)) dX10_tryStarts_84 cf_X10 wf_X10_43 sp0 (by decide) (by decide) rfl (by decide) (rp0_7 _) ?_
  refine ev_aload_n dX10_tryStarts_87 rfl (by decide) ?_
  refine ev_getf (j := 1) (t := 2) (x := (10 : Int)) dX10_tryStarts_88 cf_X10 wf_X10_16 sp0 (by decide) (by decide) rfl (by decide) (rp0_1 _) ?_
  show Ev _ _ _ _ 91 _ _ _ _ _
  refine ev_iload_n dX10_tryStarts_91 rfl ?_
  refine ev_aload_n dX10_tryStarts_92 rfl (by decide) ?_
  refine ev_getf (j := 1) (t := 2) (x := (10 : Int)) dX10_tryStarts_93 cf_X10 wf_X10_16 sp0 (by decide) (by decide) rfl (by decide) (rp0_1 _) ?_
  refine ev_getf (j := 0) (t := 2) (x := (11 : Int)) dX10_tryStarts_96 cf_X0 wf_X10_252 sp10 (by decide) (by decide) rfl (by decide) (rp10_0 _) ?_
  refine ev_iload_n dX10_tryStarts_99 rfl ?_
  refine ev_iald dX10_tryStarts_100 sp11 (by decide) (by decide) h (fun h => ?_)
  refine ev_aload_n dX10_tryStarts_101 rfl (by decide) ?_
  refine ev_getf (j := 9) (t := 2) (x := (146 : Int)) dX10_tryStarts_102 cf_X10 wf_X10_59 sp0 (by decide) (by decide) rfl (by decide) (rp0_9 _) ?_
  obtain ⟨σ13, hc14, h⟩ := bind_of h
  refine ev_invV_n (k := (35 : Int)) (av := [(2, (10 : Int)), (0, x3), (0, (σ11 (11 : Int) x1)), (2, (146 : Int))]) (st := []) (τ := σ13) dX10_tryStarts_105 ml_X10_430 mv_X4_replan (T := TX4) (ci := 3) rfl sp35 (by decide) (by decide) rfl ⟨Nat.le_of_ble_eq_true rfl, Nat.le_of_ble_eq_true rfl⟩ (Nat.le_of_ble_eq_true rfl) (c_X4_replan hB10 hW146 hc14) ?_
  refine ev_aload_n dX10_tryStarts_108 rfl (by decide) ?_
  refine ev_getf (j := 12) (t := 2) (x := (171 : Int)) dX10_tryStarts_109 cf_X10 wf_X10_77 sp0 (by decide) (by decide) rfl (by decide) (rp0_12 _) ?_
  refine ev_iload_n dX10_tryStarts_112 rfl ?_
  show Ev _ _ _ _ 113 _ _ _ _ _
  refine ev_dup2 dX10_tryStarts_113 (show (0 : Nat) ≠ 1 by decide) (show (2 : Nat) ≠ 1 by decide) ?_
  refine ev_iald dX10_tryStarts_114 sp171 (by decide) (by decide) h (fun h => ?_)
  refine ev_aload_n dX10_tryStarts_115 rfl (by decide) ?_
  refine ev_getf (j := 9) (t := 2) (x := (146 : Int)) dX10_tryStarts_116 cf_X10 wf_X10_59 sp0 (by decide) (by decide) rfl (by decide) (rp0_9 _) ?_
  obtain ⟨v15, hc16, h⟩ := bind_of h
  refine ev_invV_v (k := (146 : Int)) (av := []) (st := [(0, (σ13 (171 : Int) x2)), (0, x2), (2, (171 : Int))]) (v := (0, v15)) (τ := σ13) dX10_tryStarts_119 ml_X10_249 mv_X8_cants (T := TX8) (ci := 7) rfl sp146 (by decide) (by decide) rfl ⟨Nat.le_of_ble_eq_true rfl, Nat.le_of_ble_eq_true rfl⟩ (Nat.le_of_ble_eq_true rfl) (c_X8_cants hW146 hc16) ?_
  refine ev_iadd dX10_tryStarts_122 ?_
  refine ev_iastG dX10_tryStarts_123 sp171 (by decide) (by decide) h (fun σ17 h => ?_)
  refine ev_aload_n dX10_tryStarts_124 rfl (by decide) ?_
  refine ev_getf (j := 13) (t := 2) (x := (172 : Int)) dX10_tryStarts_125 cf_X10 wf_X10_80 sp0 (by decide) (by decide) rfl (by decide) (rp0_13 _) ?_
  refine ev_iload_n dX10_tryStarts_128 rfl ?_
  refine ev_dup2 dX10_tryStarts_129 (show (0 : Nat) ≠ 1 by decide) (show (2 : Nat) ≠ 1 by decide) ?_
  refine ev_iald dX10_tryStarts_130 sp172 (by decide) (by decide) h (fun h => ?_)
  show Ev _ _ _ _ 131 _ _ _ _ _
  refine ev_aload_n dX10_tryStarts_131 rfl (by decide) ?_
  refine ev_getf (j := 9) (t := 2) (x := (146 : Int)) dX10_tryStarts_132 cf_X10 wf_X10_59 sp0 (by decide) (by decide) rfl (by decide) (rp0_9 _) ?_
  obtain ⟨v18, hc19, h⟩ := bind_of h
  refine ev_invV_v (k := (146 : Int)) (av := []) (st := [(0, (σ17 (172 : Int) x2)), (0, x2), (2, (172 : Int))]) (v := (0, v18)) (τ := σ17) dX10_tryStarts_135 ml_X10_380 mv_X8_keptSlots (T := TX8) (ci := 7) rfl sp146 (by decide) (by decide) rfl ⟨Nat.le_of_ble_eq_true rfl, Nat.le_of_ble_eq_true rfl⟩ (Nat.le_of_ble_eq_true rfl) (c_X8_keptSlots hW146 hc19) ?_
  refine ev_iadd dX10_tryStarts_138 ?_
  refine ev_iastG dX10_tryStarts_139 sp172 (by decide) (by decide) h (fun σ20 h => ?_)
  exact ev_sub (L2 := [(2, (0 : Int)), (0, x1), (0, x2), (0, x3)]) (e_X10_tryStarts_140 σ20 x1 x2 x3 h K) ⟨.inr rfl, .inr rfl, .inr rfl, .inr rfl, trivial⟩
set_option maxHeartbeats 4000000 in
set_option maxRecDepth 20000 in
theorem e_X10_tryStarts_45 (σ : Mem) (x1 x2 x3 : Int)  {q : ((Int × Mem) ⊕ ((Mem)))} (h : f_X10_tryStarts_45 σ x1 x2 x3 = some q) {r : Option V × Mem × Mem} (K : K_X10_tryStarts_13 x1 r q) : Ev M_X10_tryStarts 210 210 r 45 210 rho σ [(2, (0 : Int)), (0, x1), (0, x2), (0, x3)] [] := by
  unfold f_X10_tryStarts_45 at h
  obtain ⟨e, hl, h⟩ := bind_of h
  refine loop_ev (K := K_X10_tryStarts_45 x1 x2 r) (b_X10_tryStarts_45 x1 x2) FU (x3, σ) e hl ?_
  show Ev M_X10_tryStarts 210 210 r 146 210 rho e [(2, (0 : Int)), (0, x1), (0, x2), (9, 0)] []
  replace h : f_X10_tryStarts_146 e x1 x2 = some q := h
  exact ev_sub (L2 := [(2, (0 : Int)), (0, x1), (0, x2), (9, 0)]) (e_X10_tryStarts_146 e x1 x2 h K) ⟨.inr rfl, .inr rfl, .inr rfl, .inl rfl, trivial⟩
set_option maxHeartbeats 4000000 in
set_option maxRecDepth 20000 in
theorem b_X10_tryStarts_13 (x1 : Int)  {r : Option V × Mem × Mem} : ∀ a x, f_X10_tryStarts_13B x1 a = some x → K_X10_tryStarts_13 x1 r x → K_X10_tryStarts_13 x1 r (.inl a) := by
  intro a x h K
  obtain ⟨x2, σ⟩ := a
  have h : f_X10_tryStarts_13C x1 x2 σ = some x := h
  unfold f_X10_tryStarts_13C at h
  show Ev M_X10_tryStarts 210 210 r 13 210 rho σ [(2, (0 : Int)), (0, x1), (0, x2), (9, 0)] []
  refine ev_iload_n dX10_tryStarts_13 rfl ?_
  refine ev_bipush dX10_tryStarts_14 (by decide) (by decide) ?_
  refine ev_icmp_ge (tgt := 152) dX10_tryStarts_16 rfl h (fun cb h => ?_) (fun cb h => ?_)
  · obtain rfl := Option.some.inj h
    exact ev_sub (L2 := [(9, 0), (9, 0), (9, 0), (9, 0)]) K ⟨.inl rfl, .inl rfl, .inl rfl, .inl rfl, trivial⟩
  refine ev_aload_n dX10_tryStarts_19 rfl (by decide) ?_
  refine ev_getf (j := 12) (t := 2) (x := (171 : Int)) dX10_tryStarts_20 cf_X10 wf_X10_77 sp0 (by decide) (by decide) rfl (by decide) (rp0_12 _) ?_
  refine ev_iload_n dX10_tryStarts_23 rfl ?_
  refine ev_iconst dX10_tryStarts_24 (by decide) ?_
  refine ev_iastG dX10_tryStarts_25 sp171 (by decide) (by decide) h (fun σ3 h => ?_)
  refine ev_aload_n dX10_tryStarts_26 rfl (by decide) ?_
  refine ev_getf (j := 13) (t := 2) (x := (172 : Int)) dX10_tryStarts_27 cf_X10 wf_X10_80 sp0 (by decide) (by decide) rfl (by decide) (rp0_13 _) ?_
  refine ev_iload_n dX10_tryStarts_30 rfl ?_
  refine ev_iconst dX10_tryStarts_31 (by decide) ?_
  refine ev_iastG dX10_tryStarts_32 sp172 (by decide) (by decide) h (fun σ4 h => ?_)
  refine ev_aload_n dX10_tryStarts_33 rfl (by decide) ?_
  show Ev _ _ _ _ 34 _ _ _ _ _
  refine ev_getf (j := 1) (t := 2) (x := (10 : Int)) dX10_tryStarts_34 cf_X10 wf_X10_16 sp0 (by decide) (by decide) rfl (by decide) (rp0_1 _) ?_
  refine ev_getf (j := 1) (t := 2) (x := (12 : Int)) dX10_tryStarts_37 cf_X0 wf_X10_170 sp10 (by decide) (by decide) rfl (by decide) (rp10_1 _) ?_
  refine ev_iload_n dX10_tryStarts_40 rfl ?_
  refine ev_iload_n dX10_tryStarts_41 rfl ?_
  refine ev_iastG dX10_tryStarts_42 sp12 (by decide) (by decide) h (fun σ5 h => ?_)
  refine ev_iconst dX10_tryStarts_43 (by decide) ?_
  refine ev_istore_n dX10_tryStarts_44 rfl (by decide) ?_
  show Ev _ _ _ _ 45 _ _ _ [(2, (0 : Int)), (0, x1), (0, x2), (0, (0 : Int))] _
  exact ev_sub (L2 := [(2, (0 : Int)), (0, x1), (0, x2), (0, (0 : Int))]) (e_X10_tryStarts_45 σ5 x1 x2 (0 : Int) h K) ⟨.inr rfl, .inr rfl, .inr rfl, .inr rfl, trivial⟩
set_option maxHeartbeats 4000000 in
set_option maxRecDepth 20000 in
theorem e_X10_tryStarts_13 (σ : Mem) (x1 x2 : Int)  {q : Mem} (h : f_X10_tryStarts_13 σ x1 x2 = some q) : Ev M_X10_tryStarts 210 210 (none, rho, q) 13 210 rho σ [(2, (0 : Int)), (0, x1), (0, x2), (9, 0)] [] := by
  unfold f_X10_tryStarts_13 at h
  obtain ⟨e, hl, h⟩ := bind_of h
  refine loop_ev (K := K_X10_tryStarts_13 x1 (none, rho, q)) (b_X10_tryStarts_13 x1) FU (x2, σ) e hl ?_
  show Ev M_X10_tryStarts 210 210 _ 152 210 rho e [(9, 0), (9, 0), (9, 0), (9, 0)] []
  replace h : some e = some q := h
  obtain rfl := Option.some.inj h
  exact ev_vret dX10_tryStarts_152 rfl rfl
set_option maxHeartbeats 4000000 in
set_option maxRecDepth 20000 in
theorem c_X10_tryStarts {σ : Mem} {x1 : Int}  {q : Mem} (h : f_X10_tryStarts σ x1 = some q) : Ms yX10_tryStarts M_X10_tryStarts 210 210 [(2, (0 : Int)), (0, x1)] rho σ (none, rho, q) := by
  refine Ms.of 2 (by decide +kernel) rfl (fun z => absurd z (by decide)) (fun _ _ _ => trivial) rfl rfl ?_
  unfold f_X10_tryStarts at h
  show Ev M_X10_tryStarts 210 210 _ 0 210 rho σ [(2, (0 : Int)), (0, x1), (9, 0), (9, 0)] []
  refine ev_aload_n dX10_tryStarts_0 rfl (by decide) ?_
  refine ev_getf (j := 1) (t := 2) (x := (10 : Int)) dX10_tryStarts_1 cf_X10 wf_X10_16 sp0 (by decide) (by decide) rfl (by decide) (rp0_1 _) ?_
  refine ev_aload_n dX10_tryStarts_4 rfl (by decide) ?_
  refine ev_getf (j := 0) (t := 2) (x := (1 : Int)) dX10_tryStarts_5 cf_X10 wf_X10_12 sp0 (by decide) (by decide) rfl (by decide) (rp0_0 _) ?_
  obtain ⟨σ1, hc2, h⟩ := bind_of h
  refine ev_invV_n (k := (10 : Int)) (av := [(2, (1 : Int))]) (st := []) (τ := σ1) dX10_tryStarts_8 ml_X10_228 mv_X0_become (T := TX0) (ci := 0) rfl sp10 (by decide) (by decide) rfl ⟨Nat.le_of_ble_eq_true rfl, Nat.le_of_ble_eq_true rfl⟩ (Nat.le_of_ble_eq_true rfl) (c_X0_become hB10 hB1 hc2) ?_
  refine ev_iconst dX10_tryStarts_11 (by decide) ?_
  refine ev_istore_n dX10_tryStarts_12 rfl (by decide) ?_
  show Ev _ _ _ _ 13 _ _ _ [(2, (0 : Int)), (0, x1), (0, (0 : Int)), (9, 0)] _
  exact ev_sub (L2 := [(2, (0 : Int)), (0, x1), (0, (0 : Int)), (9, 0)]) (e_X10_tryStarts_13 σ1 x1 (0 : Int) h) ⟨.inr rfl, .inr rfl, .inr rfl, .inl rfl, trivial⟩
def K_X10_retime_28 (σ : Mem) (r : Option V × Mem × Mem) : (Int × Int) ⊕ ((Int)) → Prop := Sum.elim (fun a => Ev M_X10_retime 210 210 r 28 210 rho σ [(2, (0 : Int)), (9, 0), (0, a.1), (0, a.2), (9, 0), (9, 0)] []) (fun e => Ev M_X10_retime 210 210 r 111 210 rho σ [(9, 0), (9, 0), (0, e), (9, 0), (9, 0), (9, 0)] [])
set_option maxHeartbeats 4000000 in
set_option maxRecDepth 20000 in
theorem e_X10_retime_105 (σ : Mem) (x2 x3 : Int)  {q : ((Int × Int) ⊕ ((Int)))} (h : f_X10_retime_105 σ x2 x3 = some q) {r : Option V × Mem × Mem} (K : K_X10_retime_28 σ r q) : Ev M_X10_retime 210 210 r 105 210 rho σ [(2, (0 : Int)), (9, 0), (0, x2), (0, x3), (9, 0), (9, 0)] [] := by
  unfold f_X10_retime_105 at h
  refine ev_iincG dX10_retime_105 rfl h rfl (fun v7 h => ?_)
  show Ev _ _ _ _ 108 _ _ _ [(2, (0 : Int)), (9, 0), (0, x2), (0, v7), (9, 0), (9, 0)] _
  refine ev_goto (tgt := 28) dX10_retime_108 rfl ?_
  obtain rfl := Option.some.inj h
  exact ev_sub (L2 := [(2, (0 : Int)), (9, 0), (0, x2), (0, v7), (9, 0), (9, 0)]) K ⟨.inr rfl, .inl rfl, .inr rfl, .inr rfl, .inl rfl, .inl rfl, trivial⟩
set_option maxHeartbeats 4000000 in
set_option maxRecDepth 20000 in
theorem e_X10_retime_103 (σ : Mem) (x3 : Int)  {q : ((Int × Int) ⊕ ((Int)))} (h : f_X10_retime_103 σ x3 = some q) {r : Option V × Mem × Mem} (K : K_X10_retime_28 σ r q) : Ev M_X10_retime 210 210 r 103 210 rho σ [(2, (0 : Int)), (9, 0), (9, 0), (0, x3), (9, 0), (9, 0)] [] := by
  unfold f_X10_retime_103 at h
  refine ev_iload_n dX10_retime_103 rfl ?_
  refine ev_istore_n dX10_retime_104 rfl (by decide) ?_
  show Ev _ _ _ _ 105 _ _ _ [(2, (0 : Int)), (9, 0), (0, x3), (0, x3), (9, 0), (9, 0)] _
  exact ev_sub (L2 := [(2, (0 : Int)), (9, 0), (0, x3), (0, x3), (9, 0), (9, 0)]) (e_X10_retime_105 σ x3 x3 h K) ⟨.inr rfl, .inl rfl, .inr rfl, .inr rfl, .inl rfl, .inl rfl, trivial⟩
set_option maxHeartbeats 4000000 in
set_option maxRecDepth 20000 in
theorem e_X10_retime_76 (σ : Mem) (x2 x3 x4 s0 : Int)  {q : ((Int × Int) ⊕ ((Int)))} (h : f_X10_retime_76 σ x2 x3 x4 s0 = some q) {r : Option V × Mem × Mem} (K : K_X10_retime_28 σ r q) : Ev M_X10_retime 210 210 r 76 210 rho σ [(2, (0 : Int)), (9, 0), (0, x2), (0, x3), (0, x4), (9, 0)] [(0, s0)] := by
  unfold f_X10_retime_76 at h
  refine ev_istore dX10_retime_76 rfl (by decide) ?_
  show Ev _ _ _ _ 78 _ _ _ [(2, (0 : Int)), (9, 0), (0, x2), (0, x3), (0, x4), (0, s0)] _
  refine ev_iload dX10_retime_78 rfl ?_
  refine ev_if_ne (tgt := 103) dX10_retime_80 rfl h (fun cb h => ?_) (fun cb h => ?_)
  · exact ev_sub (L2 := [(2, (0 : Int)), (9, 0), (9, 0), (0, x3), (9, 0), (9, 0)]) (e_X10_retime_103 σ x3 h K) ⟨.inr rfl, .inl rfl, .inl rfl, .inr rfl, .inl rfl, .inl rfl, trivial⟩
  refine ev_iload dX10_retime_83 rfl ?_
  refine ev_if_eq (tgt := 105) dX10_retime_85 rfl h (fun cb h => ?_) (fun cb h => ?_)
  · exact ev_sub (L2 := [(2, (0 : Int)), (9, 0), (0, x2), (0, x3), (9, 0), (9, 0)]) (e_X10_retime_105 σ x2 x3 h K) ⟨.inr rfl, .inl rfl, .inr rfl, .inr rfl, .inl rfl, .inl rfl, trivial⟩
  refine ev_aload_n dX10_retime_88 rfl (by decide) ?_
  refine ev_getf (j := 13) (t := 2) (x := (172 : Int)) dX10_retime_89 cf_X10 wf_X10_80 sp0 (by decide) (by decide) rfl (by decide) (rp0_13 _) ?_
  refine ev_iload_n dX10_retime_92 rfl ?_
  refine ev_iald dX10_retime_93 sp172 (by decide) (by decide) h (fun h => ?_)
  refine ev_aload_n dX10_retime_94 rfl (by decide) ?_
  refine ev_getf (j := 13) (t := 2) (x := (172 : Int)) dX10_retime_95 cf_X10 wf_X10_80 sp0 (by decide) (by decide) rfl (by decide) (rp0_13 _) ?_
  refine ev_iload_n dX10_retime_98 rfl ?_
  refine ev_iald dX10_retime_99 sp172 (by decide) (by decide) h (fun h => ?_)
  refine ev_icmp_ge (tgt := 105) dX10_retime_100 rfl h (fun cb h => ?_) (fun cb h => ?_)
  · exact ev_sub (L2 := [(2, (0 : Int)), (9, 0), (0, x2), (0, x3), (9, 0), (9, 0)]) (e_X10_retime_105 σ x2 x3 h K) ⟨.inr rfl, .inl rfl, .inr rfl, .inr rfl, .inl rfl, .inl rfl, trivial⟩
  exact ev_sub (L2 := [(2, (0 : Int)), (9, 0), (9, 0), (0, x3), (9, 0), (9, 0)]) (e_X10_retime_103 σ x3 h K) ⟨.inr rfl, .inl rfl, .inl rfl, .inr rfl, .inl rfl, .inl rfl, trivial⟩
set_option maxHeartbeats 4000000 in
set_option maxRecDepth 20000 in
theorem e_X10_retime_54 (σ : Mem) (x2 x3 s0 : Int)  {q : ((Int × Int) ⊕ ((Int)))} (h : f_X10_retime_54 σ x2 x3 s0 = some q) {r : Option V × Mem × Mem} (K : K_X10_retime_28 σ r q) : Ev M_X10_retime 210 210 r 54 210 rho σ [(2, (0 : Int)), (9, 0), (0, x2), (0, x3), (9, 0), (9, 0)] [(0, s0)] := by
  unfold f_X10_retime_54 at h
  refine ev_istore dX10_retime_54 rfl (by decide) ?_
  show Ev _ _ _ _ 56 _ _ _ [(2, (0 : Int)), (9, 0), (0, x2), (0, x3), (0, s0), (9, 0)] _
  refine ev_aload_n dX10_retime_56 rfl (by decide) ?_
  refine ev_getf (j := 12) (t := 2) (x := (171 : Int)) dX10_retime_57 cf_X10 wf_X10_77 sp0 (by decide) (by decide) rfl (by decide) (rp0_12 _) ?_
  refine ev_iload_n dX10_retime_60 rfl ?_
  refine ev_iald dX10_retime_61 sp171 (by decide) (by decide) h (fun h => ?_)
  refine ev_aload_n dX10_retime_62 rfl (by decide) ?_
  refine ev_getf (j := 12) (t := 2) (x := (171 : Int)) dX10_retime_63 cf_X10 wf_X10_77 sp0 (by decide) (by decide) rfl (by decide) (rp0_12 _) ?_
  refine ev_iload_n dX10_retime_66 rfl ?_
  refine ev_iald dX10_retime_67 sp171 (by decide) (by decide) h (fun h => ?_)
  refine ev_icmp_ne (tgt := 75) dX10_retime_68 rfl h (fun cb h => ?_) (fun cb h => ?_)
  · refine ev_iconst dX10_retime_75 (by decide) ?_
    exact ev_sub (L2 := [(2, (0 : Int)), (9, 0), (0, x2), (0, x3), (0, s0), (9, 0)]) (e_X10_retime_76 σ x2 x3 s0 (0 : Int) h K) ⟨.inr rfl, .inl rfl, .inr rfl, .inr rfl, .inr rfl, .inl rfl, trivial⟩
  refine ev_iconst dX10_retime_71 (by decide) ?_
  refine ev_goto (tgt := 76) dX10_retime_72 rfl ?_
  exact ev_sub (L2 := [(2, (0 : Int)), (9, 0), (0, x2), (0, x3), (0, s0), (9, 0)]) (e_X10_retime_76 σ x2 x3 s0 (1 : Int) h K) ⟨.inr rfl, .inl rfl, .inr rfl, .inr rfl, .inr rfl, .inl rfl, trivial⟩
set_option maxHeartbeats 4000000 in
set_option maxRecDepth 20000 in
theorem b_X10_retime_28 (σ : Mem)  {r : Option V × Mem × Mem} : ∀ a x, f_X10_retime_28B σ a = some x → K_X10_retime_28 σ r x → K_X10_retime_28 σ r (.inl a) := by
  intro a x h K
  obtain ⟨x2, x3⟩ := a
  have h : f_X10_retime_28C σ x2 x3 = some x := h
  unfold f_X10_retime_28C at h
  show Ev M_X10_retime 210 210 r 28 210 rho σ [(2, (0 : Int)), (9, 0), (0, x2), (0, x3), (9, 0), (9, 0)] []
  refine ev_iload_n dX10_retime_28 rfl ?_
  refine ev_bipush dX10_retime_29 (by decide) (by decide) ?_
  refine ev_icmp_ge (tgt := 111) dX10_retime_31 rfl h (fun cb h => ?_) (fun cb h => ?_)
  · obtain rfl := Option.some.inj h
    exact ev_sub (L2 := [(9, 0), (9, 0), (0, x2), (9, 0), (9, 0), (9, 0)]) K ⟨.inl rfl, .inl rfl, .inr rfl, .inl rfl, .inl rfl, .inl rfl, trivial⟩
  refine ev_aload_n dX10_retime_34 rfl (by decide) ?_
  refine ev_getf (j := 12) (t := 2) (x := (171 : Int)) dX10_retime_35 cf_X10 wf_X10_77 sp0 (by decide) (by decide) rfl (by decide) (rp0_12 _) ?_
  refine ev_iload_n dX10_retime_38 rfl ?_
  refine ev_iald dX10_retime_39 sp171 (by decide) (by decide) h (fun h => ?_)
  refine ev_aload_n dX10_retime_40 rfl (by decide) ?_
  refine ev_getf (j := 12) (t := 2) (x := (171 : Int)) dX10_retime_41 cf_X10 wf_X10_77 sp0 (by decide) (by decide) rfl (by decide) (rp0_12 _) ?_
  refine ev_iload_n dX10_retime_44 rfl ?_
  refine ev_iald dX10_retime_45 sp171 (by decide) (by decide) h (fun h => ?_)
  refine ev_icmp_ge (tgt := 53) dX10_retime_46 rfl h (fun cb h => ?_) (fun cb h => ?_)
  · refine ev_iconst dX10_retime_53 (by decide) ?_
    exact ev_sub (L2 := [(2, (0 : Int)), (9, 0), (0, x2), (0, x3), (9, 0), (9, 0)]) (e_X10_retime_54 σ x2 x3 (0 : Int) h K) ⟨.inr rfl, .inl rfl, .inr rfl, .inr rfl, .inl rfl, .inl rfl, trivial⟩
  refine ev_iconst dX10_retime_49 (by decide) ?_
  refine ev_goto (tgt := 54) dX10_retime_50 rfl ?_
  exact ev_sub (L2 := [(2, (0 : Int)), (9, 0), (0, x2), (0, x3), (9, 0), (9, 0)]) (e_X10_retime_54 σ x2 x3 (1 : Int) h K) ⟨.inr rfl, .inl rfl, .inr rfl, .inr rfl, .inl rfl, .inl rfl, trivial⟩
set_option maxHeartbeats 4000000 in
set_option maxRecDepth 20000 in
theorem e_X10_retime_28 (σ : Mem) (x2 x3 : Int)  {q : (Int × Mem)} (h : f_X10_retime_28 σ x2 x3 = some q) : Ev M_X10_retime 210 210 (some (0, q.1), rho, q.2) 28 210 rho σ [(2, (0 : Int)), (9, 0), (0, x2), (0, x3), (9, 0), (9, 0)] [] := by
  unfold f_X10_retime_28 at h
  obtain ⟨e, hl, h⟩ := bind_of h
  refine loop_ev (K := K_X10_retime_28 σ (some (0, q.1), rho, q.2)) (b_X10_retime_28 σ) FU (x2, x3) e hl ?_
  show Ev M_X10_retime 210 210 _ 111 210 rho σ [(9, 0), (9, 0), (0, e), (9, 0), (9, 0), (9, 0)] []
  replace h : some (e, σ) = some q := h
  refine ev_iload_n dX10_retime_111 rfl ?_
  obtain rfl := Option.some.inj h
  dsimp only
  exact ev_iret dX10_retime_112 rfl rfl
set_option maxHeartbeats 4000000 in
set_option maxRecDepth 20000 in
theorem c_X10_retime {σ : Mem} {x1 : Int}  {q : (Int × Mem)} (h : f_X10_retime σ x1 = some q) : Ms yX10_retime M_X10_retime 210 210 [(2, (0 : Int)), (0, x1)] rho σ (some (0, q.1), rho, q.2) := by
  refine Ms.of 4 (by decide +kernel) rfl (fun z => absurd z (by decide)) (fun _ _ _ => trivial) rfl rfl ?_
  unfold f_X10_retime at h
  show Ev M_X10_retime 210 210 _ 0 210 rho σ [(2, (0 : Int)), (0, x1), (9, 0), (9, 0), (9, 0), (9, 0)] []
  refine ev_aload_n dX10_retime_0 rfl (by decide) ?_
  refine ev_getf (j := 0) (t := 2) (x := (1 : Int)) dX10_retime_1 cf_X10 wf_X10_12 sp0 (by decide) (by decide) rfl (by decide) (rp0_0 _) ?_
  refine ev_iload_n dX10_retime_4 rfl ?_
  refine ev_i2lk dX10_retime_5 ?_
  obtain ⟨v1, hc2, h⟩ := bind_of h
  refine ev_invV_v (k := (1 : Int)) (av := [(1, x1)]) (st := []) (v := (0, v1)) (τ := σ) dX10_retime_6 ml_X10_166 mv_X0_hasPaper (T := TX0) (ci := 0) rfl sp1 (by decide) (by decide) rfl ⟨Nat.le_of_ble_eq_true rfl, Nat.le_of_ble_eq_true rfl⟩ (Nat.le_of_ble_eq_true rfl) (c_X0_hasPaper hB1 hc2) ?_
  refine ev_if_ne (tgt := 19) dX10_retime_9 rfl h (fun cb h => ?_) (fun cb h => ?_)
  · refine ev_aload_n dX10_retime_19 rfl (by decide) ?_
    refine ev_iload_n dX10_retime_20 rfl ?_
    obtain ⟨σ3, hc4, h⟩ := bind_of h
    refine ev_invV_n (k := (0 : Int)) (av := [(0, x1)]) (st := []) (τ := σ3) dX10_retime_21 ml_X10_383 mv_X10_tryStarts (T := TX10) (ci := 9) rfl sp0 (by decide) (by decide) rfl ⟨Nat.le_of_ble_eq_true rfl, Nat.le_of_ble_eq_true rfl⟩ (Nat.le_of_ble_eq_true rfl) (c_X10_tryStarts hc4) ?_
    refine ev_iconst dX10_retime_24 (by decide) ?_
    refine ev_istore_n dX10_retime_25 rfl (by decide) ?_
    show Ev _ _ _ _ 26 _ _ _ [(2, (0 : Int)), (0, x1), (0, (0 : Int)), (9, 0), (9, 0), (9, 0)] _
    refine ev_iconst dX10_retime_26 (by decide) ?_
    refine ev_istore_n dX10_retime_27 rfl (by decide) ?_
    show Ev _ _ _ _ 28 _ _ _ [(2, (0 : Int)), (0, x1), (0, (0 : Int)), (0, (1 : Int)), (9, 0), (9, 0)] _
    exact ev_sub (L2 := [(2, (0 : Int)), (9, 0), (0, (0 : Int)), (0, (1 : Int)), (9, 0), (9, 0)]) (e_X10_retime_28 σ3 (0 : Int) (1 : Int) h) ⟨.inr rfl, .inl rfl, .inr rfl, .inr rfl, .inl rfl, .inl rfl, trivial⟩
  refine ev_aload_n dX10_retime_12 rfl (by decide) ?_
  refine ev_bipush dX10_retime_13 (by decide) (by decide) ?_
  obtain ⟨v5, hc6, h⟩ := bind_of h
  refine ev_invV_v (k := (0 : Int)) (av := [(0, (-52 : Int))]) (st := []) (v := (0, v5.1)) (τ := v5.2) dX10_retime_15 ml_X10_90 mv_X10_refuse (T := TX10) (ci := 9) rfl sp0 (by decide) (by decide) rfl ⟨Nat.le_of_ble_eq_true rfl, Nat.le_of_ble_eq_true rfl⟩ (Nat.le_of_ble_eq_true rfl) (c_X10_refuse hc6) ?_
  obtain rfl := Option.some.inj h
  dsimp only
  exact ev_iret dX10_retime_18 rfl rfl
def K_X10_hoursFor_32 (x1 : Int) (r : Option V × Mem × Mem) : (Int × Mem) ⊕ ((Int × Mem) ⊕ (Mem)) → Prop := Sum.elim (fun a => Ev M_X10_hoursFor 210 210 r 32 210 rho a.2 [(2, (0 : Int)), (0, x1), (0, a.1)] []) (Sum.elim (fun e => Ev M_X10_hoursFor 210 210 r 72 210 rho e.2 [(9, 0), (9, 0), (0, e.1)] []) (fun e => Ev M_X10_hoursFor 210 210 r 80 210 rho e [(9, 0), (9, 0), (9, 0)] []))
set_option maxHeartbeats 4000000 in
set_option maxRecDepth 20000 in
theorem b_X10_hoursFor_32 (x1 : Int)  {r : Option V × Mem × Mem} : ∀ a x, f_X10_hoursFor_32B x1 a = some x → K_X10_hoursFor_32 x1 r x → K_X10_hoursFor_32 x1 r (.inl a) := by
  intro a x h K
  obtain ⟨x2, σ⟩ := a
  have h : f_X10_hoursFor_32C x1 x2 σ = some x := h
  unfold f_X10_hoursFor_32C at h
  show Ev M_X10_hoursFor 210 210 r 32 210 rho σ [(2, (0 : Int)), (0, x1), (0, x2)] []
  refine ev_iload_n dX10_hoursFor_32 rfl ?_
  refine ev_bipush dX10_hoursFor_33 (by decide) (by decide) ?_
  refine ev_icmp_gt (tgt := 80) dX10_hoursFor_35 rfl h (fun cb h => ?_) (fun cb h => ?_)
  · obtain rfl := Option.some.inj h
    exact ev_sub (L2 := [(9, 0), (9, 0), (9, 0)]) K ⟨.inl rfl, .inl rfl, .inl rfl, trivial⟩
  refine ev_aload_n dX10_hoursFor_38 rfl (by decide) ?_
  refine ev_getf (j := 1) (t := 2) (x := (10 : Int)) dX10_hoursFor_39 cf_X10 wf_X10_16 sp0 (by decide) (by decide) rfl (by decide) (rp0_1 _) ?_
  refine ev_iload_n dX10_hoursFor_42 rfl ?_
  refine ev_putfG (j := 11) (t := 0) dX10_hoursFor_43 cf_X0 wf_X10_211 sp10 (by decide) (by decide) rfl (by decide) (by decide) rfl (fun z => absurd z (by decide +kernel)) h (fun σ7 h => ?_)
  refine ev_aload_n dX10_hoursFor_46 rfl (by decide) ?_
  refine ev_getf (j := 7) (t := 2) (x := (35 : Int)) dX10_hoursFor_47 cf_X10 wf_X10_43 sp0 (by decide) (by decide) rfl (by decide) (rp0_7 _) ?_
  refine ev_aload_n dX10_hoursFor_50 rfl (by decide) ?_
  refine ev_getf (j := 1) (t := 2) (x := (10 : Int)) dX10_hoursFor_51 cf_X10 wf_X10_16 sp0 (by decide) (by decide) rfl (by decide) (rp0_1 _) ?_
  refine ev_iload_n dX10_hoursFor_54 rfl ?_
  refine ev_aload_n dX10_hoursFor_55 rfl (by decide) ?_
  refine ev_getf (j := 9) (t := 2) (x := (146 : Int)) dX10_hoursFor_56 cf_X10 wf_X10_59 sp0 (by decide) (by decide) rfl (by decide) (rp0_9 _) ?_
  show Ev _ _ _ _ 59 _ _ _ _ _
  obtain ⟨σ8, hc9, h⟩ := bind_of h
  refine ev_invV_n (k := (35 : Int)) (av := [(2, (10 : Int)), (0, x1), (2, (146 : Int))]) (st := []) (τ := σ8) dX10_hoursFor_59 ml_X10_376 mv_X4_planWeek (T := TX4) (ci := 3) rfl sp35 (by decide) (by decide) rfl ⟨Nat.le_of_ble_eq_true rfl, Nat.le_of_ble_eq_true rfl⟩ (Nat.le_of_ble_eq_true rfl) (c_X4_planWeek hB10 hW146 hc9) ?_
  refine ev_aload_n dX10_hoursFor_62 rfl (by decide) ?_
  refine ev_getf (j := 9) (t := 2) (x := (146 : Int)) dX10_hoursFor_63 cf_X10 wf_X10_59 sp0 (by decide) (by decide) rfl (by decide) (rp0_9 _) ?_
  obtain ⟨v10, hc11, h⟩ := bind_of h
  refine ev_invV_v (k := (146 : Int)) (av := []) (st := []) (v := (0, v10)) (τ := σ8) dX10_hoursFor_66 ml_X10_249 mv_X8_cants (T := TX8) (ci := 7) rfl sp146 (by decide) (by decide) rfl ⟨Nat.le_of_ble_eq_true rfl, Nat.le_of_ble_eq_true rfl⟩ (Nat.le_of_ble_eq_true rfl) (c_X8_cants hW146 hc11) ?_
  refine ev_if_ne (tgt := 74) dX10_hoursFor_69 rfl h (fun cb h => ?_) (fun cb h => ?_)
  · refine ev_iincG dX10_hoursFor_74 rfl h rfl (fun v12 h => ?_)
    show Ev _ _ _ _ 77 _ _ _ [(2, (0 : Int)), (0, x1), (0, v12)] _
    refine ev_goto (tgt := 32) dX10_hoursFor_77 rfl ?_
    obtain rfl := Option.some.inj h
    exact ev_sub (L2 := [(2, (0 : Int)), (0, x1), (0, v12)]) K ⟨.inr rfl, .inr rfl, .inr rfl, trivial⟩
  obtain rfl := Option.some.inj h
  exact ev_sub (L2 := [(9, 0), (9, 0), (0, x2)]) K ⟨.inl rfl, .inl rfl, .inr rfl, trivial⟩
set_option maxHeartbeats 4000000 in
set_option maxRecDepth 20000 in
theorem e_X10_hoursFor_32 (σ : Mem) (x1 x2 : Int)  {q : (Int × Mem)} (h : f_X10_hoursFor_32 σ x1 x2 = some q) : Ev M_X10_hoursFor 210 210 (some (0, q.1), rho, q.2) 32 210 rho σ [(2, (0 : Int)), (0, x1), (0, x2)] [] := by
  unfold f_X10_hoursFor_32 at h
  obtain ⟨e, hl, h⟩ := bind_of h
  refine loop_ev (K := K_X10_hoursFor_32 x1 (some (0, q.1), rho, q.2)) (b_X10_hoursFor_32 x1) FU (x2, σ) e hl ?_
  rcases e with e | e
  · show Ev M_X10_hoursFor 210 210 _ 72 210 rho e.2 [(9, 0), (9, 0), (0, e.1)] []
    replace h : some (e.1, e.2) = some q := h
    refine ev_iload_n dX10_hoursFor_72 rfl ?_
    obtain rfl := Option.some.inj h
    dsimp only
    exact ev_iret dX10_hoursFor_73 rfl rfl
  · show Ev M_X10_hoursFor 210 210 _ 80 210 rho e [(9, 0), (9, 0), (9, 0)] []
    replace h : some ((-1 : Int), e) = some q := h
    refine ev_iconst dX10_hoursFor_80 (by decide) ?_
    obtain rfl := Option.some.inj h
    dsimp only
    exact ev_iret dX10_hoursFor_81 rfl rfl
set_option maxHeartbeats 4000000 in
set_option maxRecDepth 20000 in
theorem c_X10_hoursFor {σ : Mem} {x1 : Int}  {q : (Int × Mem)} (h : f_X10_hoursFor σ x1 = some q) : Ms yX10_hoursFor M_X10_hoursFor 210 210 [(2, (0 : Int)), (0, x1)] rho σ (some (0, q.1), rho, q.2) := by
  refine Ms.of 1 (by decide +kernel) rfl (fun z => absurd z (by decide)) (fun _ _ _ => trivial) rfl rfl ?_
  unfold f_X10_hoursFor at h
  show Ev M_X10_hoursFor 210 210 _ 0 210 rho σ [(2, (0 : Int)), (0, x1), (9, 0)] []
  refine ev_aload_n dX10_hoursFor_0 rfl (by decide) ?_
  refine ev_getf (j := 0) (t := 2) (x := (1 : Int)) dX10_hoursFor_1 cf_X10 wf_X10_12 sp0 (by decide) (by decide) rfl (by decide) (rp0_0 _) ?_
  refine ev_iload_n dX10_hoursFor_4 rfl ?_
  obtain ⟨v1, hc2, h⟩ := bind_of h
  refine ev_invV_v (k := (1 : Int)) (av := [(0, x1)]) (st := []) (v := (0, v1)) (τ := σ) dX10_hoursFor_5 ml_X10_124 mv_X0_hasCand (T := TX0) (ci := 0) rfl sp1 (by decide) (by decide) rfl ⟨Nat.le_of_ble_eq_true rfl, Nat.le_of_ble_eq_true rfl⟩ (Nat.le_of_ble_eq_true rfl) (c_X0_hasCand hB1 hc2) ?_
  refine ev_if_ne (tgt := 18) dX10_hoursFor_8 rfl h (fun cb h => ?_) (fun cb h => ?_)
  · refine ev_aload_n dX10_hoursFor_18 rfl (by decide) ?_
    refine ev_getf (j := 1) (t := 2) (x := (10 : Int)) dX10_hoursFor_19 cf_X10 wf_X10_16 sp0 (by decide) (by decide) rfl (by decide) (rp0_1 _) ?_
    refine ev_aload_n dX10_hoursFor_22 rfl (by decide) ?_
    refine ev_getf (j := 0) (t := 2) (x := (1 : Int)) dX10_hoursFor_23 cf_X10 wf_X10_12 sp0 (by decide) (by decide) rfl (by decide) (rp0_0 _) ?_
    obtain ⟨σ3, hc4, h⟩ := bind_of h
    refine ev_invV_n (k := (10 : Int)) (av := [(2, (1 : Int))]) (st := []) (τ := σ3) dX10_hoursFor_26 ml_X10_228 mv_X0_become (T := TX0) (ci := 0) rfl sp10 (by decide) (by decide) rfl ⟨Nat.le_of_ble_eq_true rfl, Nat.le_of_ble_eq_true rfl⟩ (Nat.le_of_ble_eq_true rfl) (c_X0_become hB10 hB1 hc4) ?_
    refine ev_bipush dX10_hoursFor_29 (by decide) (by decide) ?_
    refine ev_istore_n dX10_hoursFor_31 rfl (by decide) ?_
    show Ev _ _ _ _ 32 _ _ _ [(2, (0 : Int)), (0, x1), (0, (8 : Int))] _
    exact ev_sub (L2 := [(2, (0 : Int)), (0, x1), (0, (8 : Int))]) (e_X10_hoursFor_32 σ3 x1 (8 : Int) h) ⟨.inr rfl, .inr rfl, .inr rfl, trivial⟩
  refine ev_aload_n dX10_hoursFor_11 rfl (by decide) ?_
  refine ev_bipush dX10_hoursFor_12 (by decide) (by decide) ?_
  obtain ⟨v5, hc6, h⟩ := bind_of h
  refine ev_invV_v (k := (0 : Int)) (av := [(0, (-52 : Int))]) (st := []) (v := (0, v5.1)) (τ := v5.2) dX10_hoursFor_14 ml_X10_90 mv_X10_refuse (T := TX10) (ci := 9) rfl sp0 (by decide) (by decide) rfl ⟨Nat.le_of_ble_eq_true rfl, Nat.le_of_ble_eq_true rfl⟩ (Nat.le_of_ble_eq_true rfl) (c_X10_refuse hc6) ?_
  obtain rfl := Option.some.inj h
  dsimp only
  exact ev_iret dX10_hoursFor_17 rfl rfl
set_option maxHeartbeats 4000000 in
set_option maxRecDepth 20000 in
theorem c_X10_isTold {σ : Mem} {x0 : Int}  {q : Int} (h : f_X10_isTold σ x0 = some q) : Ms yX10_isTold M_X10_isTold 210 210 [(0, x0)] rho σ (some (0, q), rho, σ) := by
  refine Ms.of 0 (by decide +kernel) rfl (fun z => absurd z (by decide)) (fun _ _ _ => trivial) rfl rfl ?_
  unfold f_X10_isTold at h
  show Ev M_X10_isTold 210 210 _ 0 210 rho σ [(0, x0)] []
  refine ev_iload_n dX10_isTold_0 rfl ?_
  refine ev_if_lt (tgt := 14) dX10_isTold_1 rfl h (fun cb h => ?_) (fun cb h => ?_)
  · refine ev_iconst dX10_isTold_14 (by decide) ?_
    obtain rfl := Option.some.inj h
    exact ev_zret dX10_isTold_15 rfl (chk_pos (.inl rfl))
  refine ev_iload_n dX10_isTold_4 rfl ?_
  refine ev_bipush dX10_isTold_5 (by decide) (by decide) ?_
  refine ev_icmp_gt (tgt := 14) dX10_isTold_7 rfl h (fun cb h => ?_) (fun cb h => ?_)
  · refine ev_iconst dX10_isTold_14 (by decide) ?_
    obtain rfl := Option.some.inj h
    exact ev_zret dX10_isTold_15 rfl (chk_pos (.inl rfl))
  refine ev_iconst dX10_isTold_10 (by decide) ?_
  refine ev_goto (tgt := 15) dX10_isTold_11 rfl ?_
  obtain rfl := Option.some.inj h
  exact ev_zret dX10_isTold_15 rfl (chk_pos (.inr rfl))
def K_X10_hasToldTimes_3 (σ : Mem) (x1 x2 x3 x4 : Int) (r : Option V × Mem × Mem) : (Int) ⊕ ((Unit) ⊕ (Unit) ⊕ (Unit)) → Prop := Sum.elim (fun a => Ev M_X10_hasToldTimes 210 210 r 3 210 rho σ [(2, (0 : Int)), (0, x1), (0, x2), (0, x3), (0, x4), (0, a), (9, 0), (9, 0), (9, 0)] []) (Sum.elim (fun e => Ev M_X10_hasToldTimes 210 210 r 36 210 rho σ [(9, 0), (9, 0), (9, 0), (9, 0), (9, 0), (9, 0), (9, 0), (9, 0), (9, 0)] []) (Sum.elim (fun e => Ev M_X10_hasToldTimes 210 210 r 77 210 rho σ [(9, 0), (9, 0), (9, 0), (9, 0), (9, 0), (9, 0), (9, 0), (9, 0), (9, 0)] []) (fun e => Ev M_X10_hasToldTimes 210 210 r 85 210 rho σ [(9, 0), (9, 0), (9, 0), (9, 0), (9, 0), (9, 0), (9, 0), (9, 0), (9, 0)] [])))
set_option maxHeartbeats 4000000 in
set_option maxRecDepth 20000 in
theorem b_X10_hasToldTimes_3 (σ : Mem) (x1 x2 x3 x4 : Int)  {r : Option V × Mem × Mem} : ∀ a x, f_X10_hasToldTimes_3B σ x1 x2 x3 x4 a = some x → K_X10_hasToldTimes_3 σ x1 x2 x3 x4 r x → K_X10_hasToldTimes_3 σ x1 x2 x3 x4 r (.inl a) := by
  intro a x h K
  have ⟨x5, ea⟩ : ∃ z, z = a := ⟨_, rfl⟩
  subst ea
  have h : f_X10_hasToldTimes_3C σ x1 x2 x3 x4 x5 = some x := h
  unfold f_X10_hasToldTimes_3C at h
  show Ev M_X10_hasToldTimes 210 210 r 3 210 rho σ [(2, (0 : Int)), (0, x1), (0, x2), (0, x3), (0, x4), (0, x5), (9, 0), (9, 0), (9, 0)] []
  refine ev_iload dX10_hasToldTimes_3 rfl ?_
  refine ev_iload dX10_hasToldTimes_5 rfl ?_
  refine ev_icmp_ge (tgt := 85) dX10_hasToldTimes_7 rfl h (fun cb h => ?_) (fun cb h => ?_)
  · obtain rfl := Option.some.inj h
    exact ev_sub (L2 := [(9, 0), (9, 0), (9, 0), (9, 0), (9, 0), (9, 0), (9, 0), (9, 0), (9, 0)]) K ⟨.inl rfl, .inl rfl, .inl rfl, .inl rfl, .inl rfl, .inl rfl, .inl rfl, .inl rfl, .inl rfl, trivial⟩
  refine ev_aload_n dX10_hasToldTimes_10 rfl (by decide) ?_
  refine ev_getf (j := 5) (t := 2) (x := (30 : Int)) dX10_hasToldTimes_11 cf_X10 wf_X10_32 sp0 (by decide) (by decide) rfl (by decide) (rp0_5 _) ?_
  refine ev_iload_n dX10_hasToldTimes_14 rfl ?_
  refine ev_iconst dX10_hasToldTimes_15 (by decide) ?_
  refine ev_iload dX10_hasToldTimes_16 rfl ?_
  refine ev_imul dX10_hasToldTimes_18 ?_
  obtain ⟨v1, hc2, h⟩ := bind_of h
  refine ev_invV_v (k := (30 : Int)) (av := [(0, x3), (0, (jmul (2 : Int) x5))]) (st := []) (v := (1, v1)) (τ := σ) dX10_hasToldTimes_19 ml_X10_120 mv_X6_elementAt (T := TX6) (ci := 5) rfl sp30 (by decide) (by decide) rfl ⟨Nat.le_of_ble_eq_true rfl, Nat.le_of_ble_eq_true rfl⟩ (Nat.le_of_ble_eq_true rfl) (c_X6_elementAt hc2) ?_
  refine ev_lstore dX10_hasToldTimes_22 rfl (by decide) ?_
  show Ev _ _ _ _ 24 _ _ _ [(2, (0 : Int)), (0, x1), (0, x2), (0, x3), (0, x4), (0, x5), (1, v1), (9, 0), (9, 0)] _
  refine ev_aload_n dX10_hasToldTimes_24 rfl (by decide) ?_
  refine ev_getf (j := 0) (t := 2) (x := (1 : Int)) dX10_hasToldTimes_25 cf_X10 wf_X10_12 sp0 (by decide) (by decide) rfl (by decide) (rp0_0 _) ?_
  refine ev_lload dX10_hasToldTimes_28 rfl ?_
  show Ev _ _ _ _ 30 _ _ _ _ _
  obtain ⟨v3, hc4, h⟩ := bind_of h
  refine ev_invV_v (k := (1 : Int)) (av := [(1, v1)]) (st := []) (v := (0, v3)) (τ := σ) dX10_hasToldTimes_30 ml_X10_166 mv_X0_hasPaper (T := TX0) (ci := 0) rfl sp1 (by decide) (by decide) rfl ⟨Nat.le_of_ble_eq_true rfl, Nat.le_of_ble_eq_true rfl⟩ (Nat.le_of_ble_eq_true rfl) (c_X0_hasPaper hB1 hc4) ?_
  refine ev_if_ne (tgt := 38) dX10_hasToldTimes_33 rfl h (fun cb h => ?_) (fun cb h => ?_)
  · refine ev_iload_n dX10_hasToldTimes_38 rfl ?_
    refine ev_iload_n dX10_hasToldTimes_39 rfl ?_
    refine ev_aload_n dX10_hasToldTimes_40 rfl (by decide) ?_
    refine ev_getf (j := 0) (t := 2) (x := (1 : Int)) dX10_hasToldTimes_41 cf_X10 wf_X10_12 sp0 (by decide) (by decide) rfl (by decide) (rp0_0 _) ?_
    refine ev_getf (j := 2) (t := 2) (x := (4 : Int)) dX10_hasToldTimes_44 cf_X0 wf_X10_255 sp1 (by decide) (by decide) rfl (by decide) (rp1_2 _) ?_
    refine ev_lload dX10_hasToldTimes_47 rfl ?_
    refine ev_l2i dX10_hasToldTimes_49 ?_
    refine ev_iald dX10_hasToldTimes_50 sp4 (by decide) (by decide) h (fun h => ?_)
    obtain ⟨v5, hc6, h⟩ := bind_of h
    refine ev_invS_v (av := [(0, x1), (0, x2), (0, (σ (4 : Int) (lj v1)))]) (st := []) (v := (0, v5)) (τ := σ) dX10_hasToldTimes_51 ml_X10_434 mt_X2_timeOf rfl ⟨Nat.le_of_ble_eq_true rfl, Nat.le_of_ble_eq_true rfl⟩ (Nat.le_of_ble_eq_true rfl) (c_X2_timeOf hc6) ?_
    refine ev_istore dX10_hasToldTimes_54 rfl (by decide) ?_
    show Ev _ _ _ _ 56 _ _ _ [(2, (0 : Int)), (0, x1), (0, x2), (0, x3), (0, x4), (0, x5), (1, v1), (9, 0), (0, v5)] _
    refine ev_aload_n dX10_hasToldTimes_56 rfl (by decide) ?_
    show Ev _ _ _ _ 57 _ _ _ _ _
    refine ev_getf (j := 5) (t := 2) (x := (30 : Int)) dX10_hasToldTimes_57 cf_X10 wf_X10_32 sp0 (by decide) (by decide) rfl (by decide) (rp0_5 _) ?_
    refine ev_iload_n dX10_hasToldTimes_60 rfl ?_
    refine ev_iconst dX10_hasToldTimes_61 (by decide) ?_
    refine ev_iload dX10_hasToldTimes_62 rfl ?_
    refine ev_imul dX10_hasToldTimes_64 ?_
    refine ev_iconst dX10_hasToldTimes_65 (by decide) ?_
    refine ev_iadd dX10_hasToldTimes_66 ?_
    obtain ⟨v7, hc8, h⟩ := bind_of h
    refine ev_invV_v (k := (30 : Int)) (av := [(0, x3), (0, (jadd (jmul (2 : Int) x5) (1 : Int)))]) (st := []) (v := (1, v7)) (τ := σ) dX10_hasToldTimes_67 ml_X10_120 mv_X6_elementAt (T := TX6) (ci := 5) rfl sp30 (by decide) (by decide) rfl ⟨Nat.le_of_ble_eq_true rfl, Nat.le_of_ble_eq_true rfl⟩ (Nat.le_of_ble_eq_true rfl) (c_X6_elementAt hc8) ?_
    refine ev_iload dX10_hasToldTimes_70 rfl ?_
    refine ev_i2lk dX10_hasToldTimes_72 ?_
    refine ev_lc_eq (tgt := 79) dX10_hasToldTimes_73 dX10_hasToldTimes_74 rfl h (fun cb h => ?_) (fun cb h => ?_)
    · refine ev_iincG dX10_hasToldTimes_79 rfl h rfl (fun v9 h => ?_)
      show Ev _ _ _ _ 82 _ _ _ [(2, (0 : Int)), (0, x1), (0, x2), (0, x3), (0, x4), (0, v9), (1, v1), (9, 0), (0, v5)] _
      refine ev_goto (tgt := 3) dX10_hasToldTimes_82 rfl ?_
      obtain rfl := Option.some.inj h
      exact ev_sub (L2 := [(2, (0 : Int)), (0, x1), (0, x2), (0, x3), (0, x4), (0, v9), (9, 0), (9, 0), (9, 0)]) K ⟨.inr rfl, .inr rfl, .inr rfl, .inr rfl, .inr rfl, .inr rfl, .inl rfl, .inl rfl, .inl rfl, trivial⟩
    obtain rfl := Option.some.inj h
    exact ev_sub (L2 := [(9, 0), (9, 0), (9, 0), (9, 0), (9, 0), (9, 0), (9, 0), (9, 0), (9, 0)]) K ⟨.inl rfl, .inl rfl, .inl rfl, .inl rfl, .inl rfl, .inl rfl, .inl rfl, .inl rfl, .inl rfl, trivial⟩
  obtain rfl := Option.some.inj h
  exact ev_sub (L2 := [(9, 0), (9, 0), (9, 0), (9, 0), (9, 0), (9, 0), (9, 0), (9, 0), (9, 0)]) K ⟨.inl rfl, .inl rfl, .inl rfl, .inl rfl, .inl rfl, .inl rfl, .inl rfl, .inl rfl, .inl rfl, trivial⟩
set_option maxHeartbeats 4000000 in
set_option maxRecDepth 20000 in
theorem e_X10_hasToldTimes_3 (σ : Mem) (x1 x2 x3 x4 x5 : Int)  {q : Int} (h : f_X10_hasToldTimes_3 σ x1 x2 x3 x4 x5 = some q) : Ev M_X10_hasToldTimes 210 210 (some (0, q), rho, σ) 3 210 rho σ [(2, (0 : Int)), (0, x1), (0, x2), (0, x3), (0, x4), (0, x5), (9, 0), (9, 0), (9, 0)] [] := by
  unfold f_X10_hasToldTimes_3 at h
  obtain ⟨e, hl, h⟩ := bind_of h
  refine loop_ev (K := K_X10_hasToldTimes_3 σ x1 x2 x3 x4 (some (0, q), rho, σ)) (b_X10_hasToldTimes_3 σ x1 x2 x3 x4) FU x5 e hl ?_
  rcases e with e | e
  · show Ev M_X10_hasToldTimes 210 210 _ 36 210 rho σ [(9, 0), (9, 0), (9, 0), (9, 0), (9, 0), (9, 0), (9, 0), (9, 0), (9, 0)] []
    replace h : some (0 : Int) = some q := h
    refine ev_iconst dX10_hasToldTimes_36 (by decide) ?_
    obtain rfl := Option.some.inj h
    exact ev_zret dX10_hasToldTimes_37 rfl (chk_pos (.inl rfl))
  rcases e with e | e
  · show Ev M_X10_hasToldTimes 210 210 _ 77 210 rho σ [(9, 0), (9, 0), (9, 0), (9, 0), (9, 0), (9, 0), (9, 0), (9, 0), (9, 0)] []
    replace h : some (0 : Int) = some q := h
    refine ev_iconst dX10_hasToldTimes_77 (by decide) ?_
    obtain rfl := Option.some.inj h
    exact ev_zret dX10_hasToldTimes_78 rfl (chk_pos (.inl rfl))
  · show Ev M_X10_hasToldTimes 210 210 _ 85 210 rho σ [(9, 0), (9, 0), (9, 0), (9, 0), (9, 0), (9, 0), (9, 0), (9, 0), (9, 0)] []
    replace h : some (1 : Int) = some q := h
    refine ev_iconst dX10_hasToldTimes_85 (by decide) ?_
    obtain rfl := Option.some.inj h
    exact ev_zret dX10_hasToldTimes_86 rfl (chk_pos (.inr rfl))
set_option maxHeartbeats 4000000 in
set_option maxRecDepth 20000 in
theorem c_X10_hasToldTimes {σ : Mem} {x1 x2 x3 x4 : Int}  {q : Int} (h : f_X10_hasToldTimes σ x1 x2 x3 x4 = some q) : Ms yX10_hasToldTimes M_X10_hasToldTimes 210 210 [(2, (0 : Int)), (0, x1), (0, x2), (0, x3), (0, x4)] rho σ (some (0, q), rho, σ) := by
  refine Ms.of 4 (by decide +kernel) rfl (fun z => absurd z (by decide)) (fun _ _ _ => trivial) rfl rfl ?_
  unfold f_X10_hasToldTimes at h
  show Ev M_X10_hasToldTimes 210 210 _ 0 210 rho σ [(2, (0 : Int)), (0, x1), (0, x2), (0, x3), (0, x4), (9, 0), (9, 0), (9, 0), (9, 0)] []
  refine ev_iconst dX10_hasToldTimes_0 (by decide) ?_
  refine ev_istore dX10_hasToldTimes_1 rfl (by decide) ?_
  show Ev _ _ _ _ 3 _ _ _ [(2, (0 : Int)), (0, x1), (0, x2), (0, x3), (0, x4), (0, (0 : Int)), (9, 0), (9, 0), (9, 0)] _
  exact ev_sub (L2 := [(2, (0 : Int)), (0, x1), (0, x2), (0, x3), (0, x4), (0, (0 : Int)), (9, 0), (9, 0), (9, 0)]) (e_X10_hasToldTimes_3 σ x1 x2 x3 x4 (0 : Int) h) ⟨.inr rfl, .inr rfl, .inr rfl, .inr rfl, .inr rfl, .inr rfl, .inl rfl, .inl rfl, .inl rfl, trivial⟩
def K_X10_kinds_126 (σ : Mem) (x1 x2 x3 : Int) (r : Option V × Mem × Mem) : (Int × Int) ⊕ ((Int)) → Prop := Sum.elim (fun a => Ev M_X10_kinds 210 210 r 126 210 rho σ [(2, (0 : Int)), (0, x1), (0, x2), (0, x3), (9, 0), (0, a.1), (0, a.2)] []) (fun e => Ev M_X10_kinds 210 210 r 168 210 rho σ [(9, 0), (9, 0), (9, 0), (9, 0), (9, 0), (0, e), (9, 0)] [])
def K_X10_kinds_79 (σ : Mem) (x1 x2 x3 : Int) (r : Option V × Mem × Mem) : (Int) ⊕ ((Unit) ⊕ (Unit)) → Prop := Sum.elim (fun a => Ev M_X10_kinds 210 210 r 79 210 rho σ [(2, (0 : Int)), (0, x1), (0, x2), (0, x3), (9, 0), (0, a), (9, 0)] []) (Sum.elim (fun e => Ev M_X10_kinds 210 210 r 107 210 rho σ [(2, (0 : Int)), (9, 0), (9, 0), (9, 0), (9, 0), (9, 0), (9, 0)] []) (fun e => Ev M_X10_kinds 210 210 r 120 210 rho σ [(2, (0 : Int)), (0, x1), (0, x2), (0, x3), (9, 0), (9, 0), (9, 0)] []))
set_option maxHeartbeats 4000000 in
set_option maxRecDepth 20000 in
theorem e_X10_kinds_25 (σ : Mem)  {q : (Int × Mem)} (h : f_X10_kinds_25 σ  = some q) : Ev M_X10_kinds 210 210 (some (0, q.1), rho, q.2) 25 210 rho σ [(2, (0 : Int)), (9, 0), (9, 0), (9, 0), (9, 0), (9, 0), (9, 0)] [] := by
  unfold f_X10_kinds_25 at h
  refine ev_aload_n dX10_kinds_25 rfl (by decide) ?_
  refine ev_bipush dX10_kinds_26 (by decide) (by decide) ?_
  obtain ⟨v15, hc16, h⟩ := bind_of h
  refine ev_invV_v (k := (0 : Int)) (av := [(0, (-52 : Int))]) (st := []) (v := (0, v15.1)) (τ := v15.2) dX10_kinds_28 ml_X10_90 mv_X10_refuse (T := TX10) (ci := 9) rfl sp0 (by decide) (by decide) rfl ⟨Nat.le_of_ble_eq_true rfl, Nat.le_of_ble_eq_true rfl⟩ (Nat.le_of_ble_eq_true rfl) (c_X10_refuse hc16) ?_
  obtain rfl := Option.some.inj h
  dsimp only
  exact ev_iret dX10_kinds_31 rfl rfl
set_option maxHeartbeats 4000000 in
set_option maxRecDepth 20000 in
theorem e_X10_kinds_107 (σ : Mem)  {q : (Int × Mem)} (h : f_X10_kinds_107 σ  = some q) : Ev M_X10_kinds 210 210 (some (0, q.1), rho, q.2) 107 210 rho σ [(2, (0 : Int)), (9, 0), (9, 0), (9, 0), (9, 0), (9, 0), (9, 0)] [] := by
  unfold f_X10_kinds_107 at h
  refine ev_aload_n dX10_kinds_107 rfl (by decide) ?_
  refine ev_bipush dX10_kinds_108 (by decide) (by decide) ?_
  obtain ⟨v22, hc23, h⟩ := bind_of h
  refine ev_invV_v (k := (0 : Int)) (av := [(0, (-55 : Int))]) (st := []) (v := (0, v22.1)) (τ := v22.2) dX10_kinds_110 ml_X10_90 mv_X10_refuse (T := TX10) (ci := 9) rfl sp0 (by decide) (by decide) rfl ⟨Nat.le_of_ble_eq_true rfl, Nat.le_of_ble_eq_true rfl⟩ (Nat.le_of_ble_eq_true rfl) (c_X10_refuse hc23) ?_
  obtain rfl := Option.some.inj h
  dsimp only
  exact ev_iret dX10_kinds_113 rfl rfl
set_option maxHeartbeats 4000000 in
set_option maxRecDepth 20000 in
theorem e_X10_kinds_162 (σ : Mem) (x1 x2 x3 x5 x6 : Int)  {q : ((Int × Int) ⊕ ((Int)))} (h : f_X10_kinds_162 σ x1 x2 x3 x5 x6 = some q) {r : Option V × Mem × Mem} (K : K_X10_kinds_126 σ x1 x2 x3 r q) : Ev M_X10_kinds 210 210 r 162 210 rho σ [(2, (0 : Int)), (0, x1), (0, x2), (0, x3), (9, 0), (0, x5), (0, x6)] [] := by
  unfold f_X10_kinds_162 at h
  refine ev_iincG dX10_kinds_162 rfl h rfl (fun v27 h => ?_)
  show Ev _ _ _ _ 165 _ _ _ [(2, (0 : Int)), (0, x1), (0, x2), (0, x3), (9, 0), (0, x5), (0, v27)] _
  refine ev_goto (tgt := 126) dX10_kinds_165 rfl ?_
  obtain rfl := Option.some.inj h
  exact ev_sub (L2 := [(2, (0 : Int)), (0, x1), (0, x2), (0, x3), (9, 0), (0, x5), (0, v27)]) K ⟨.inr rfl, .inr rfl, .inr rfl, .inr rfl, .inl rfl, .inr rfl, .inr rfl, trivial⟩
set_option maxHeartbeats 4000000 in
set_option maxRecDepth 20000 in
theorem b_X10_kinds_126 (σ : Mem) (x1 x2 x3 : Int)  {r : Option V × Mem × Mem} : ∀ a x, f_X10_kinds_126B σ x1 x2 x3 a = some x → K_X10_kinds_126 σ x1 x2 x3 r x → K_X10_kinds_126 σ x1 x2 x3 r (.inl a) := by
  intro a x h K
  obtain ⟨x5, x6⟩ := a
  have h : f_X10_kinds_126C σ x1 x2 x3 x5 x6 = some x := h
  unfold f_X10_kinds_126C at h
  show Ev M_X10_kinds 210 210 r 126 210 rho σ [(2, (0 : Int)), (0, x1), (0, x2), (0, x3), (9, 0), (0, x5), (0, x6)] []
  refine ev_iload dX10_kinds_126 rfl ?_
  refine ev_bipush dX10_kinds_128 (by decide) (by decide) ?_
  refine ev_icmp_ge (tgt := 168) dX10_kinds_130 rfl h (fun cb h => ?_) (fun cb h => ?_)
  · obtain rfl := Option.some.inj h
    exact ev_sub (L2 := [(9, 0), (9, 0), (9, 0), (9, 0), (9, 0), (0, x5), (9, 0)]) K ⟨.inl rfl, .inl rfl, .inl rfl, .inl rfl, .inl rfl, .inr rfl, .inl rfl, trivial⟩
  refine ev_aload_n dX10_kinds_133 rfl (by decide) ?_
  refine ev_iload dX10_kinds_134 rfl ?_
  refine ev_aload_n dX10_kinds_136 rfl (by decide) ?_
  refine ev_getf (j := 0) (t := 2) (x := (1 : Int)) dX10_kinds_137 cf_X10 wf_X10_12 sp0 (by decide) (by decide) rfl (by decide) (rp0_0 _) ?_
  refine ev_getf (j := 4) (t := 2) (x := (6 : Int)) dX10_kinds_140 cf_X0 wf_X10_145 sp1 (by decide) (by decide) rfl (by decide) (rp1_4 _) ?_
  refine ev_iload_n dX10_kinds_143 rfl ?_
  refine ev_iald dX10_kinds_144 sp6 (by decide) (by decide) h (fun h => ?_)
  refine ev_iload_n dX10_kinds_145 rfl ?_
  refine ev_iload_n dX10_kinds_146 rfl ?_
  obtain ⟨v24, hc25, h⟩ := bind_of h
  refine ev_invV_v (k := (0 : Int)) (av := [(0, x6), (0, (σ (6 : Int) x1)), (0, x2), (0, x3)]) (st := []) (v := (0, v24)) (τ := σ) dX10_kinds_147 ml_X10_389 mv_X10_hasToldTimes (T := TX10) (ci := 9) rfl sp0 (by decide) (by decide) rfl ⟨Nat.le_of_ble_eq_true rfl, Nat.le_of_ble_eq_true rfl⟩ (Nat.le_of_ble_eq_true rfl) (c_X10_hasToldTimes hc25) ?_
  refine ev_if_eq (tgt := 162) dX10_kinds_150 rfl h (fun cb h => ?_) (fun cb h => ?_)
  · exact ev_sub (L2 := [(2, (0 : Int)), (0, x1), (0, x2), (0, x3), (9, 0), (0, x5), (0, x6)]) (e_X10_kinds_162 σ x1 x2 x3 x5 x6 h K) ⟨.inr rfl, .inr rfl, .inr rfl, .inr rfl, .inl rfl, .inr rfl, .inr rfl, trivial⟩
  refine ev_iload dX10_kinds_153 rfl ?_
  refine ev_iconst dX10_kinds_155 (by decide) ?_
  refine ev_iload dX10_kinds_156 rfl ?_
  refine ev_ishl dX10_kinds_158 ?_
  refine ev_ior dX10_kinds_159 ?_
  refine ev_istoreG dX10_kinds_160 h rfl (by decide) (fun v26 h => ?_)
  show Ev _ _ _ _ 162 _ _ _ [(2, (0 : Int)), (0, x1), (0, x2), (0, x3), (9, 0), (0, v26), (0, x6)] _
  exact ev_sub (L2 := [(2, (0 : Int)), (0, x1), (0, x2), (0, x3), (9, 0), (0, v26), (0, x6)]) (e_X10_kinds_162 σ x1 x2 x3 v26 x6 h K) ⟨.inr rfl, .inr rfl, .inr rfl, .inr rfl, .inl rfl, .inr rfl, .inr rfl, trivial⟩
set_option maxHeartbeats 4000000 in
set_option maxRecDepth 20000 in
theorem e_X10_kinds_126 (σ : Mem) (x1 x2 x3 x5 x6 : Int)  {q : (Int × Mem)} (h : f_X10_kinds_126 σ x1 x2 x3 x5 x6 = some q) : Ev M_X10_kinds 210 210 (some (0, q.1), rho, q.2) 126 210 rho σ [(2, (0 : Int)), (0, x1), (0, x2), (0, x3), (9, 0), (0, x5), (0, x6)] [] := by
  unfold f_X10_kinds_126 at h
  obtain ⟨e, hl, h⟩ := bind_of h
  refine loop_ev (K := K_X10_kinds_126 σ x1 x2 x3 (some (0, q.1), rho, q.2)) (b_X10_kinds_126 σ x1 x2 x3) FU (x5, x6) e hl ?_
  show Ev M_X10_kinds 210 210 _ 168 210 rho σ [(9, 0), (9, 0), (9, 0), (9, 0), (9, 0), (0, e), (9, 0)] []
  replace h : some (e, σ) = some q := h
  refine ev_iload dX10_kinds_168 rfl ?_
  obtain rfl := Option.some.inj h
  dsimp only
  exact ev_iret dX10_kinds_170 rfl rfl
set_option maxHeartbeats 4000000 in
set_option maxRecDepth 20000 in
theorem e_X10_kinds_120 (σ : Mem) (x1 x2 x3 : Int)  {q : (Int × Mem)} (h : f_X10_kinds_120 σ x1 x2 x3 = some q) : Ev M_X10_kinds 210 210 (some (0, q.1), rho, q.2) 120 210 rho σ [(2, (0 : Int)), (0, x1), (0, x2), (0, x3), (9, 0), (9, 0), (9, 0)] [] := by
  unfold f_X10_kinds_120 at h
  refine ev_iconst dX10_kinds_120 (by decide) ?_
  refine ev_istore dX10_kinds_121 rfl (by decide) ?_
  show Ev _ _ _ _ 123 _ _ _ [(2, (0 : Int)), (0, x1), (0, x2), (0, x3), (9, 0), (0, (0 : Int)), (9, 0)] _
  refine ev_iconst dX10_kinds_123 (by decide) ?_
  refine ev_istore dX10_kinds_124 rfl (by decide) ?_
  show Ev _ _ _ _ 126 _ _ _ [(2, (0 : Int)), (0, x1), (0, x2), (0, x3), (9, 0), (0, (0 : Int)), (0, (0 : Int))] _
  exact ev_sub (L2 := [(2, (0 : Int)), (0, x1), (0, x2), (0, x3), (9, 0), (0, (0 : Int)), (0, (0 : Int))]) (e_X10_kinds_126 σ x1 x2 x3 (0 : Int) (0 : Int) h) ⟨.inr rfl, .inr rfl, .inr rfl, .inr rfl, .inl rfl, .inr rfl, .inr rfl, trivial⟩
set_option maxHeartbeats 4000000 in
set_option maxRecDepth 20000 in
theorem b_X10_kinds_79 (σ : Mem) (x1 x2 x3 : Int)  {r : Option V × Mem × Mem} : ∀ a x, f_X10_kinds_79B σ x1 x2 x3 a = some x → K_X10_kinds_79 σ x1 x2 x3 r x → K_X10_kinds_79 σ x1 x2 x3 r (.inl a) := by
  intro a x h K
  have ⟨x5, ea⟩ : ∃ z, z = a := ⟨_, rfl⟩
  subst ea
  have h : f_X10_kinds_79C σ x1 x2 x3 x5 = some x := h
  unfold f_X10_kinds_79C at h
  show Ev M_X10_kinds 210 210 r 79 210 rho σ [(2, (0 : Int)), (0, x1), (0, x2), (0, x3), (9, 0), (0, x5), (9, 0)] []
  refine ev_iload dX10_kinds_79 rfl ?_
  refine ev_iload_n dX10_kinds_81 rfl ?_
  refine ev_icmp_ge (tgt := 120) dX10_kinds_82 rfl h (fun cb h => ?_) (fun cb h => ?_)
  · obtain rfl := Option.some.inj h
    exact ev_sub (L2 := [(2, (0 : Int)), (0, x1), (0, x2), (0, x3), (9, 0), (9, 0), (9, 0)]) K ⟨.inr rfl, .inr rfl, .inr rfl, .inr rfl, .inl rfl, .inl rfl, .inl rfl, trivial⟩
  refine ev_aload_n dX10_kinds_85 rfl (by decide) ?_
  refine ev_getf (j := 0) (t := 2) (x := (1 : Int)) dX10_kinds_86 cf_X10 wf_X10_12 sp0 (by decide) (by decide) rfl (by decide) (rp0_0 _) ?_
  refine ev_aload_n dX10_kinds_89 rfl (by decide) ?_
  refine ev_getf (j := 5) (t := 2) (x := (30 : Int)) dX10_kinds_90 cf_X10 wf_X10_32 sp0 (by decide) (by decide) rfl (by decide) (rp0_5 _) ?_
  refine ev_iload_n dX10_kinds_93 rfl ?_
  refine ev_iconst dX10_kinds_94 (by decide) ?_
  refine ev_iload dX10_kinds_95 rfl ?_
  refine ev_imul dX10_kinds_97 ?_
  obtain ⟨v17, hc18, h⟩ := bind_of h
  refine ev_invV_v (k := (30 : Int)) (av := [(0, x2), (0, (jmul (2 : Int) x5))]) (st := [(2, (1 : Int))]) (v := (1, v17)) (τ := σ) dX10_kinds_98 ml_X10_120 mv_X6_elementAt (T := TX6) (ci := 5) rfl sp30 (by decide) (by decide) rfl ⟨Nat.le_of_ble_eq_true rfl, Nat.le_of_ble_eq_true rfl⟩ (Nat.le_of_ble_eq_true rfl) (c_X6_elementAt hc18) ?_
  obtain ⟨v19, hc20, h⟩ := bind_of h
  refine ev_invV_v (k := (1 : Int)) (av := [(1, v17)]) (st := []) (v := (0, v19)) (τ := σ) dX10_kinds_101 ml_X10_166 mv_X0_hasPaper (T := TX0) (ci := 0) rfl sp1 (by decide) (by decide) rfl ⟨Nat.le_of_ble_eq_true rfl, Nat.le_of_ble_eq_true rfl⟩ (Nat.le_of_ble_eq_true rfl) (c_X0_hasPaper hB1 hc20) ?_
  refine ev_if_ne (tgt := 114) dX10_kinds_104 rfl h (fun cb h => ?_) (fun cb h => ?_)
  · refine ev_iincG dX10_kinds_114 rfl h rfl (fun v21 h => ?_)
    show Ev _ _ _ _ 117 _ _ _ [(2, (0 : Int)), (0, x1), (0, x2), (0, x3), (9, 0), (0, v21), (9, 0)] _
    refine ev_goto (tgt := 79) dX10_kinds_117 rfl ?_
    obtain rfl := Option.some.inj h
    exact ev_sub (L2 := [(2, (0 : Int)), (0, x1), (0, x2), (0, x3), (9, 0), (0, v21), (9, 0)]) K ⟨.inr rfl, .inr rfl, .inr rfl, .inr rfl, .inl rfl, .inr rfl, .inl rfl, trivial⟩
  obtain rfl := Option.some.inj h
  exact ev_sub (L2 := [(2, (0 : Int)), (9, 0), (9, 0), (9, 0), (9, 0), (9, 0), (9, 0)]) K ⟨.inr rfl, .inl rfl, .inl rfl, .inl rfl, .inl rfl, .inl rfl, .inl rfl, trivial⟩
set_option maxHeartbeats 4000000 in
set_option maxRecDepth 20000 in
theorem e_X10_kinds_79 (σ : Mem) (x1 x2 x3 x5 : Int)  {q : (Int × Mem)} (h : f_X10_kinds_79 σ x1 x2 x3 x5 = some q) : Ev M_X10_kinds 210 210 (some (0, q.1), rho, q.2) 79 210 rho σ [(2, (0 : Int)), (0, x1), (0, x2), (0, x3), (9, 0), (0, x5), (9, 0)] [] := by
  unfold f_X10_kinds_79 at h
  obtain ⟨e, hl, h⟩ := bind_of h
  refine loop_ev (K := K_X10_kinds_79 σ x1 x2 x3 (some (0, q.1), rho, q.2)) (b_X10_kinds_79 σ x1 x2 x3) FU x5 e hl ?_
  rcases e with e | e
  · show Ev M_X10_kinds 210 210 _ 107 210 rho σ [(2, (0 : Int)), (9, 0), (9, 0), (9, 0), (9, 0), (9, 0), (9, 0)] []
    replace h : f_X10_kinds_107 σ = some q := h
    exact ev_sub (L2 := [(2, (0 : Int)), (9, 0), (9, 0), (9, 0), (9, 0), (9, 0), (9, 0)]) (e_X10_kinds_107 σ h) ⟨.inr rfl, .inl rfl, .inl rfl, .inl rfl, .inl rfl, .inl rfl, .inl rfl, trivial⟩
  · show Ev M_X10_kinds 210 210 _ 120 210 rho σ [(2, (0 : Int)), (0, x1), (0, x2), (0, x3), (9, 0), (9, 0), (9, 0)] []
    replace h : f_X10_kinds_120 σ x1 x2 x3 = some q := h
    exact ev_sub (L2 := [(2, (0 : Int)), (0, x1), (0, x2), (0, x3), (9, 0), (9, 0), (9, 0)]) (e_X10_kinds_120 σ x1 x2 x3 h) ⟨.inr rfl, .inr rfl, .inr rfl, .inr rfl, .inl rfl, .inl rfl, .inl rfl, trivial⟩
set_option maxHeartbeats 4000000 in
set_option maxRecDepth 20000 in
theorem c_X10_kinds {σ : Mem} {x1 x2 x3 : Int}  {q : (Int × Mem)} (h : f_X10_kinds σ x1 x2 x3 = some q) : Ms yX10_kinds M_X10_kinds 210 210 [(2, (0 : Int)), (0, x1), (0, x2), (0, x3)] rho σ (some (0, q.1), rho, q.2) := by
  refine Ms.of 3 (by decide +kernel) rfl (fun z => absurd z (by decide)) (fun _ _ _ => trivial) rfl rfl ?_
  unfold f_X10_kinds at h
  show Ev M_X10_kinds 210 210 _ 0 210 rho σ [(2, (0 : Int)), (0, x1), (0, x2), (0, x3), (9, 0), (9, 0), (9, 0)] []
  refine ev_aload_n dX10_kinds_0 rfl (by decide) ?_
  refine ev_getf (j := 0) (t := 2) (x := (1 : Int)) dX10_kinds_1 cf_X10 wf_X10_12 sp0 (by decide) (by decide) rfl (by decide) (rp0_0 _) ?_
  refine ev_iload_n dX10_kinds_4 rfl ?_
  obtain ⟨v1, hc2, h⟩ := bind_of h
  refine ev_invV_v (k := (1 : Int)) (av := [(0, x1)]) (st := []) (v := (0, v1)) (τ := σ) dX10_kinds_5 ml_X10_124 mv_X0_hasCand (T := TX0) (ci := 0) rfl sp1 (by decide) (by decide) rfl ⟨Nat.le_of_ble_eq_true rfl, Nat.le_of_ble_eq_true rfl⟩ (Nat.le_of_ble_eq_true rfl) (c_X0_hasCand hB1 hc2) ?_
  refine ev_if_eq (tgt := 25) dX10_kinds_8 rfl h (fun cb h => ?_) (fun cb h => ?_)
  · exact ev_sub (L2 := [(2, (0 : Int)), (9, 0), (9, 0), (9, 0), (9, 0), (9, 0), (9, 0)]) (e_X10_kinds_25 σ h) ⟨.inr rfl, .inl rfl, .inl rfl, .inl rfl, .inl rfl, .inl rfl, .inl rfl, trivial⟩
  refine ev_iload_n dX10_kinds_11 rfl ?_
  obtain ⟨v3, hc4, h⟩ := bind_of h
  refine ev_invS_v (av := [(0, x2)]) (st := []) (v := (0, v3)) (τ := σ) dX10_kinds_12 ml_X10_83 mt_X6_isShelf rfl ⟨Nat.le_of_ble_eq_true rfl, Nat.le_of_ble_eq_true rfl⟩ (Nat.le_of_ble_eq_true rfl) (c_X6_isShelf hc4) ?_
  refine ev_if_eq (tgt := 25) dX10_kinds_15 rfl h (fun cb h => ?_) (fun cb h => ?_)
  · exact ev_sub (L2 := [(2, (0 : Int)), (9, 0), (9, 0), (9, 0), (9, 0), (9, 0), (9, 0)]) (e_X10_kinds_25 σ h) ⟨.inr rfl, .inl rfl, .inl rfl, .inl rfl, .inl rfl, .inl rfl, .inl rfl, trivial⟩
  refine ev_iload_n dX10_kinds_18 rfl ?_
  obtain ⟨v5, hc6, h⟩ := bind_of h
  refine ev_invS_v (av := [(0, x3)]) (st := []) (v := (0, v5)) (τ := σ) dX10_kinds_19 ml_X10_386 mt_X10_isTold rfl ⟨Nat.le_of_ble_eq_true rfl, Nat.le_of_ble_eq_true rfl⟩ (Nat.le_of_ble_eq_true rfl) (c_X10_isTold hc6) ?_
  refine ev_if_ne (tgt := 32) dX10_kinds_22 rfl h (fun cb h => ?_) (fun cb h => ?_)
  · refine ev_aload_n dX10_kinds_32 rfl (by decide) ?_
    refine ev_getf (j := 5) (t := 2) (x := (30 : Int)) dX10_kinds_33 cf_X10 wf_X10_32 sp0 (by decide) (by decide) rfl (by decide) (rp0_5 _) ?_
    refine ev_iload_n dX10_kinds_36 rfl ?_
    obtain ⟨v7, hc8, h⟩ := bind_of h
    refine ev_invV_v (k := (30 : Int)) (av := [(0, x2)]) (st := []) (v := (0, v7)) (τ := σ) dX10_kinds_37 ml_X10_98 mv_X6_rowTrouble (T := TX6) (ci := 5) rfl sp30 (by decide) (by decide) rfl ⟨Nat.le_of_ble_eq_true rfl, Nat.le_of_ble_eq_true rfl⟩ (Nat.le_of_ble_eq_true rfl) (c_X6_rowTrouble hc8) ?_
    refine ev_istore dX10_kinds_40 rfl (by decide) ?_
    show Ev _ _ _ _ 42 _ _ _ [(2, (0 : Int)), (0, x1), (0, x2), (0, x3), (0, v7), (9, 0), (9, 0)] _
    refine ev_iload dX10_kinds_42 rfl ?_
    refine ev_if_eq (tgt := 54) dX10_kinds_44 rfl h (fun cb h => ?_) (fun cb h => ?_)
    · refine ev_aload_n dX10_kinds_54 rfl (by decide) ?_
      refine ev_getf (j := 5) (t := 2) (x := (30 : Int)) dX10_kinds_55 cf_X10 wf_X10_32 sp0 (by decide) (by decide) rfl (by decide) (rp0_5 _) ?_
      refine ev_iload_n dX10_kinds_58 rfl ?_
      refine ev_iconst dX10_kinds_59 (by decide) ?_
      refine ev_iconst dX10_kinds_60 (by decide) ?_
      refine ev_iload_n dX10_kinds_61 rfl ?_
      refine ev_imul dX10_kinds_62 ?_
      obtain ⟨v9, hc10, h⟩ := bind_of h
      refine ev_invV_v (k := (30 : Int)) (av := [(0, x2), (0, (0 : Int)), (0, (jmul (2 : Int) x3))]) (st := []) (v := (0, v9)) (τ := σ) dX10_kinds_63 ml_X10_112 mv_X6_hasElements (T := TX6) (ci := 5) rfl sp30 (by decide) (by decide) rfl ⟨Nat.le_of_ble_eq_true rfl, Nat.le_of_ble_eq_true rfl⟩ (Nat.le_of_ble_eq_true rfl) (c_X6_hasElements hc10) ?_
      refine ev_if_ne (tgt := 76) dX10_kinds_66 rfl h (fun cb h => ?_) (fun cb h => ?_)
      · refine ev_iconst dX10_kinds_76 (by decide) ?_
        refine ev_istore dX10_kinds_77 rfl (by decide) ?_
        show Ev _ _ _ _ 79 _ _ _ [(2, (0 : Int)), (0, x1), (0, x2), (0, x3), (0, v7), (0, (0 : Int)), (9, 0)] _
        exact ev_sub (L2 := [(2, (0 : Int)), (0, x1), (0, x2), (0, x3), (9, 0), (0, (0 : Int)), (9, 0)]) (e_X10_kinds_79 σ x1 x2 x3 (0 : Int) h) ⟨.inr rfl, .inr rfl, .inr rfl, .inr rfl, .inl rfl, .inr rfl, .inl rfl, trivial⟩
      refine ev_aload_n dX10_kinds_69 rfl (by decide) ?_
      refine ev_bipush dX10_kinds_70 (by decide) (by decide) ?_
      obtain ⟨v11, hc12, h⟩ := bind_of h
      refine ev_invV_v (k := (0 : Int)) (av := [(0, (-52 : Int))]) (st := []) (v := (0, v11.1)) (τ := v11.2) dX10_kinds_72 ml_X10_90 mv_X10_refuse (T := TX10) (ci := 9) rfl sp0 (by decide) (by decide) rfl ⟨Nat.le_of_ble_eq_true rfl, Nat.le_of_ble_eq_true rfl⟩ (Nat.le_of_ble_eq_true rfl) (c_X10_refuse hc12) ?_
      obtain rfl := Option.some.inj h
      dsimp only
      exact ev_iret dX10_kinds_75 rfl rfl
    refine ev_aload_n dX10_kinds_47 rfl (by decide) ?_
    refine ev_iload dX10_kinds_48 rfl ?_
    obtain ⟨v13, hc14, h⟩ := bind_of h
    refine ev_invV_v (k := (0 : Int)) (av := [(0, v7)]) (st := []) (v := (0, v13.1)) (τ := v13.2) dX10_kinds_50 ml_X10_90 mv_X10_refuse (T := TX10) (ci := 9) rfl sp0 (by decide) (by decide) rfl ⟨Nat.le_of_ble_eq_true rfl, Nat.le_of_ble_eq_true rfl⟩ (Nat.le_of_ble_eq_true rfl) (c_X10_refuse hc14) ?_
    obtain rfl := Option.some.inj h
    dsimp only
    exact ev_iret dX10_kinds_53 rfl rfl
  exact ev_sub (L2 := [(2, (0 : Int)), (9, 0), (9, 0), (9, 0), (9, 0), (9, 0), (9, 0)]) (e_X10_kinds_25 σ h) ⟨.inr rfl, .inl rfl, .inl rfl, .inl rfl, .inl rfl, .inl rfl, .inl rfl, trivial⟩
def K_X10_firstWrong_51 (σ : Mem) (x1 x3 x4 : Int) (r : Option V × Mem × Mem) : (Int × Int × Int × Int) ⊕ ((Int) ⊕ (Int) ⊕ (Unit)) → Prop := Sum.elim (fun a => Ev M_X10_firstWrong 210 210 r 51 210 rho σ [(2, (0 : Int)), (0, x1), (9, 0), (0, x3), (0, x4), (9, 0), (0, a.1), (0, a.2.1), (0, a.2.2.1), (0, a.2.2.2), (9, 0), (9, 0), (9, 0), (9, 0), (9, 0)] []) (Sum.elim (fun e => Ev M_X10_firstWrong 210 210 r 93 210 rho σ [(9, 0), (9, 0), (9, 0), (9, 0), (9, 0), (9, 0), (9, 0), (9, 0), (9, 0), (0, e), (9, 0), (9, 0), (9, 0), (9, 0), (9, 0)] []) (Sum.elim (fun e => Ev M_X10_firstWrong 210 210 r 170 210 rho σ [(9, 0), (9, 0), (9, 0), (9, 0), (9, 0), (9, 0), (9, 0), (9, 0), (9, 0), (0, e), (9, 0), (9, 0), (9, 0), (9, 0), (9, 0)] []) (fun e => Ev M_X10_firstWrong 210 210 r 192 210 rho σ [(9, 0), (9, 0), (9, 0), (9, 0), (9, 0), (9, 0), (9, 0), (9, 0), (9, 0), (9, 0), (9, 0), (9, 0), (9, 0), (9, 0), (9, 0)] [])))
set_option maxHeartbeats 4000000 in
set_option maxRecDepth 20000 in
theorem b_X10_firstWrong_51 (σ : Mem) (x1 x3 x4 : Int)  {r : Option V × Mem × Mem} : ∀ a x, f_X10_firstWrong_51B σ x1 x3 x4 a = some x → K_X10_firstWrong_51 σ x1 x3 x4 r x → K_X10_firstWrong_51 σ x1 x3 x4 r (.inl a) := by
  intro a x h K
  obtain ⟨x6, x7, x8, x9⟩ := a
  have h : f_X10_firstWrong_51C σ x1 x3 x4 x6 x7 x8 x9 = some x := h
  unfold f_X10_firstWrong_51C at h
  show Ev M_X10_firstWrong 210 210 r 51 210 rho σ [(2, (0 : Int)), (0, x1), (9, 0), (0, x3), (0, x4), (9, 0), (0, x6), (0, x7), (0, x8), (0, x9), (9, 0), (9, 0), (9, 0), (9, 0), (9, 0)] []
  refine ev_iload dX10_firstWrong_51 rfl ?_
  refine ev_iload dX10_firstWrong_53 rfl ?_
  refine ev_icmp_ge (tgt := 192) dX10_firstWrong_55 rfl h (fun cb h => ?_) (fun cb h => ?_)
  · obtain rfl := Option.some.inj h
    exact ev_sub (L2 := [(9, 0), (9, 0), (9, 0), (9, 0), (9, 0), (9, 0), (9, 0), (9, 0), (9, 0), (9, 0), (9, 0), (9, 0), (9, 0), (9, 0), (9, 0)]) K ⟨.inl rfl, .inl rfl, .inl rfl, .inl rfl, .inl rfl, .inl rfl, .inl rfl, .inl rfl, .inl rfl, .inl rfl, .inl rfl, .inl rfl, .inl rfl, .inl rfl, .inl rfl, trivial⟩
  refine ev_aload_n dX10_firstWrong_58 rfl (by decide) ?_
  refine ev_getf (j := 5) (t := 2) (x := (30 : Int)) dX10_firstWrong_59 cf_X10 wf_X10_32 sp0 (by decide) (by decide) rfl (by decide) (rp0_5 _) ?_
  refine ev_iload_n dX10_firstWrong_62 rfl ?_
  refine ev_iload dX10_firstWrong_63 rfl ?_
  obtain ⟨v9, hc10, h⟩ := bind_of h
  refine ev_invV_v (k := (30 : Int)) (av := [(0, x3), (0, x9)]) (st := []) (v := (1, v9)) (τ := σ) dX10_firstWrong_65 ml_X10_120 mv_X6_elementAt (T := TX6) (ci := 5) rfl sp30 (by decide) (by decide) rfl ⟨Nat.le_of_ble_eq_true rfl, Nat.le_of_ble_eq_true rfl⟩ (Nat.le_of_ble_eq_true rfl) (c_X6_elementAt hc10) ?_
  refine ev_lstore dX10_firstWrong_68 rfl (by decide) ?_
  show Ev _ _ _ _ 70 _ _ _ [(2, (0 : Int)), (0, x1), (9, 0), (0, x3), (0, x4), (9, 0), (0, x6), (0, x7), (0, x8), (0, x9), (1, v9), (9, 0), (9, 0), (9, 0), (9, 0)] _
  refine ev_aload_n dX10_firstWrong_70 rfl (by decide) ?_
  refine ev_getf (j := 0) (t := 2) (x := (1 : Int)) dX10_firstWrong_71 cf_X10 wf_X10_12 sp0 (by decide) (by decide) rfl (by decide) (rp0_0 _) ?_
  refine ev_lload dX10_firstWrong_74 rfl ?_
  obtain ⟨v11, hc12, h⟩ := bind_of h
  refine ev_invV_v (k := (1 : Int)) (av := [(1, v9)]) (st := []) (v := (0, v11)) (τ := σ) dX10_firstWrong_76 ml_X10_166 mv_X0_hasPaper (T := TX0) (ci := 0) rfl sp1 (by decide) (by decide) rfl ⟨Nat.le_of_ble_eq_true rfl, Nat.le_of_ble_eq_true rfl⟩ (Nat.le_of_ble_eq_true rfl) (c_X0_hasPaper hB1 hc12) ?_
  refine ev_if_eq (tgt := 93) dX10_firstWrong_79 rfl h (fun cb h => ?_) (fun cb h => ?_)
  · obtain rfl := Option.some.inj h
    exact ev_sub (L2 := [(9, 0), (9, 0), (9, 0), (9, 0), (9, 0), (9, 0), (9, 0), (9, 0), (9, 0), (0, x9), (9, 0), (9, 0), (9, 0), (9, 0), (9, 0)]) K ⟨.inl rfl, .inl rfl, .inl rfl, .inl rfl, .inl rfl, .inl rfl, .inl rfl, .inl rfl, .inl rfl, .inr rfl, .inl rfl, .inl rfl, .inl rfl, .inl rfl, .inl rfl, trivial⟩
  refine ev_iload dX10_firstWrong_82 rfl ?_
  refine ev_lload dX10_firstWrong_84 rfl ?_
  refine ev_l2i dX10_firstWrong_86 ?_
  obtain ⟨v13, hc14, h⟩ := bind_of h
  refine ev_invS_v (av := [(0, x6), (0, (lj v9))]) (st := []) (v := (0, v13)) (τ := σ) dX10_firstWrong_87 ml_X10_440 mt_X10_hasBit rfl ⟨Nat.le_of_ble_eq_true rfl, Nat.le_of_ble_eq_true rfl⟩ (Nat.le_of_ble_eq_true rfl) (c_X10_hasBit hc14) ?_
  refine ev_if_ne (tgt := 96) dX10_firstWrong_90 rfl h (fun cb h => ?_) (fun cb h => ?_)
  · refine ev_lload dX10_firstWrong_96 rfl ?_
    refine ev_l2i dX10_firstWrong_98 ?_
    refine ev_istoreG dX10_firstWrong_99 h rfl (by decide) (fun v15 h => ?_)
    show Ev _ _ _ _ 101 _ _ _ [(2, (0 : Int)), (0, x1), (9, 0), (0, x3), (0, x4), (9, 0), (0, x6), (0, x7), (0, x8), (0, x9), (1, v9), (9, 0), (0, v15), (9, 0), (9, 0)] _
    refine ev_iload dX10_firstWrong_101 rfl ?_
    refine ev_iconst dX10_firstWrong_103 (by decide) ?_
    refine ev_iload dX10_firstWrong_104 rfl ?_
    refine ev_ishl dX10_firstWrong_106 ?_
    refine ev_iconst dX10_firstWrong_107 (by decide) ?_
    refine ev_ixor dX10_firstWrong_108 ?_
    refine ev_iand dX10_firstWrong_109 ?_
    refine ev_istoreG dX10_firstWrong_110 h rfl (by decide) (fun v16 h => ?_)
    show Ev _ _ _ _ 112 _ _ _ [(2, (0 : Int)), (0, x1), (9, 0), (0, x3), (0, x4), (9, 0), (0, v16), (0, x7), (0, x8), (0, x9), (1, v9), (9, 0), (0, v15), (9, 0), (9, 0)] _
    show Ev _ _ _ _ 112 _ _ _ _ _
    refine ev_aload_n dX10_firstWrong_112 rfl (by decide) ?_
    refine ev_getf (j := 0) (t := 2) (x := (1 : Int)) dX10_firstWrong_113 cf_X10 wf_X10_12 sp0 (by decide) (by decide) rfl (by decide) (rp0_0 _) ?_
    refine ev_iload_n dX10_firstWrong_116 rfl ?_
    refine ev_iload dX10_firstWrong_117 rfl ?_
    obtain ⟨v17, hc18, h⟩ := bind_of h
    refine ev_invV_v (k := (1 : Int)) (av := [(0, x1), (0, v15)]) (st := []) (v := (0, v17)) (τ := σ) dX10_firstWrong_119 ml_X10_264 mv_X0_timeFor (T := TX0) (ci := 0) rfl sp1 (by decide) (by decide) rfl ⟨Nat.le_of_ble_eq_true rfl, Nat.le_of_ble_eq_true rfl⟩ (Nat.le_of_ble_eq_true rfl) (c_X0_timeFor hB1 hc18) ?_
    refine ev_istore dX10_firstWrong_122 rfl (by decide) ?_
    show Ev _ _ _ _ 124 _ _ _ [(2, (0 : Int)), (0, x1), (9, 0), (0, x3), (0, x4), (9, 0), (0, v16), (0, x7), (0, x8), (0, x9), (1, v9), (9, 0), (0, v15), (0, v17), (9, 0)] _
    refine ev_aload_n dX10_firstWrong_124 rfl (by decide) ?_
    refine ev_getf (j := 0) (t := 2) (x := (1 : Int)) dX10_firstWrong_125 cf_X10 wf_X10_12 sp0 (by decide) (by decide) rfl (by decide) (rp0_0 _) ?_
    refine ev_getf (j := 1) (t := 2) (x := (3 : Int)) dX10_firstWrong_128 cf_X0 wf_X10_170 sp1 (by decide) (by decide) rfl (by decide) (rp1_1 _) ?_
    refine ev_iload dX10_firstWrong_131 rfl ?_
    refine ev_iald dX10_firstWrong_133 sp3 (by decide) (by decide) h (fun h => ?_)
    refine ev_iload dX10_firstWrong_134 rfl ?_
    show Ev _ _ _ _ 136 _ _ _ _ _
    refine ev_mx dX10_firstWrong_136 wa_X10_443 wm_max (by decide) (Nat.le_of_ble_eq_true rfl) ?_
    refine ev_iload dX10_firstWrong_139 rfl ?_
    refine ev_iadd dX10_firstWrong_141 ?_
    refine ev_istoreG dX10_firstWrong_142 h rfl (by decide) (fun v19 h => ?_)
    show Ev _ _ _ _ 144 _ _ _ [(2, (0 : Int)), (0, x1), (9, 0), (0, x3), (0, x4), (9, 0), (0, v16), (0, x7), (0, x8), (0, x9), (1, v9), (9, 0), (0, v15), (0, v17), (0, v19)] _
    refine ev_iload dX10_firstWrong_144 rfl ?_
    refine ev_iload dX10_firstWrong_146 rfl ?_
    refine ev_iadd dX10_firstWrong_148 ?_
    refine ev_istoreG dX10_firstWrong_149 h rfl (by decide) (fun v20 h => ?_)
    show Ev _ _ _ _ 151 _ _ _ [(2, (0 : Int)), (0, x1), (9, 0), (0, x3), (0, x4), (9, 0), (0, v16), (0, x7), (0, v20), (0, x9), (1, v9), (9, 0), (0, v15), (0, v17), (0, v19)] _
    refine ev_iload dX10_firstWrong_151 rfl ?_
    refine ev_bipush dX10_firstWrong_153 (by decide) (by decide) ?_
    refine ev_icmp_gt (tgt := 170) dX10_firstWrong_155 rfl h (fun cb h => ?_) (fun cb h => ?_)
    · obtain rfl := Option.some.inj h
      exact ev_sub (L2 := [(9, 0), (9, 0), (9, 0), (9, 0), (9, 0), (9, 0), (9, 0), (9, 0), (9, 0), (0, x9), (9, 0), (9, 0), (9, 0), (9, 0), (9, 0)]) K ⟨.inl rfl, .inl rfl, .inl rfl, .inl rfl, .inl rfl, .inl rfl, .inl rfl, .inl rfl, .inl rfl, .inr rfl, .inl rfl, .inl rfl, .inl rfl, .inl rfl, .inl rfl, trivial⟩
    refine ev_iload dX10_firstWrong_158 rfl ?_
    refine ev_aload_n dX10_firstWrong_160 rfl (by decide) ?_
    refine ev_getf (j := 0) (t := 2) (x := (1 : Int)) dX10_firstWrong_161 cf_X10 wf_X10_12 sp0 (by decide) (by decide) rfl (by decide) (rp0_0 _) ?_
    refine ev_getf (j := 11) (t := 0) (x := (σ (1 : Int) 11)) dX10_firstWrong_164 cf_X0 wf_X10_211 sp1 (by decide) (by decide) rfl (by decide) rfl ?_
    refine ev_icmp_le (tgt := 173) dX10_firstWrong_167 rfl h (fun cb h => ?_) (fun cb h => ?_)
    · refine ev_iload dX10_firstWrong_173 rfl ?_
      refine ev_aload_n dX10_firstWrong_175 rfl (by decide) ?_
      refine ev_getf (j := 0) (t := 2) (x := (1 : Int)) dX10_firstWrong_176 cf_X10 wf_X10_12 sp0 (by decide) (by decide) rfl (by decide) (rp0_0 _) ?_
      refine ev_iload_n dX10_firstWrong_179 rfl ?_
      obtain ⟨v21, hc22, h⟩ := bind_of h
      refine ev_invV_v (k := (1 : Int)) (av := [(0, x1)]) (st := [(0, v19)]) (v := (0, v21)) (τ := σ) dX10_firstWrong_180 ml_X10_242 mv_X0_restFor (T := TX0) (ci := 0) rfl sp1 (by decide) (by decide) rfl ⟨Nat.le_of_ble_eq_true rfl, Nat.le_of_ble_eq_true rfl⟩ (Nat.le_of_ble_eq_true rfl) (c_X0_restFor hB1 hc22) ?_
      refine ev_iadd dX10_firstWrong_183 ?_
      refine ev_istoreG dX10_firstWrong_184 h rfl (by decide) (fun v23 h => ?_)
      show Ev _ _ _ _ 186 _ _ _ [(2, (0 : Int)), (0, x1), (9, 0), (0, x3), (0, x4), (9, 0), (0, v16), (0, v23), (0, v20), (0, x9), (1, v9), (9, 0), (0, v15), (0, v17), (0, v19)] _
      refine ev_iincG dX10_firstWrong_186 rfl h rfl (fun v24 h => ?_)
      show Ev _ _ _ _ 189 _ _ _ [(2, (0 : Int)), (0, x1), (9, 0), (0, x3), (0, x4), (9, 0), (0, v16), (0, v23), (0, v20), (0, v24), (1, v9), (9, 0), (0, v15), (0, v17), (0, v19)] _
      refine ev_goto (tgt := 51) dX10_firstWrong_189 rfl ?_
      obtain rfl := Option.some.inj h
      exact ev_sub (L2 := [(2, (0 : Int)), (0, x1), (9, 0), (0, x3), (0, x4), (9, 0), (0, v16), (0, v23), (0, v20), (0, v24), (9, 0), (9, 0), (9, 0), (9, 0), (9, 0)]) K ⟨.inr rfl, .inr rfl, .inl rfl, .inr rfl, .inr rfl, .inl rfl, .inr rfl, .inr rfl, .inr rfl, .inr rfl, .inl rfl, .inl rfl, .inl rfl, .inl rfl, .inl rfl, trivial⟩
    obtain rfl := Option.some.inj h
    exact ev_sub (L2 := [(9, 0), (9, 0), (9, 0), (9, 0), (9, 0), (9, 0), (9, 0), (9, 0), (9, 0), (0, x9), (9, 0), (9, 0), (9, 0), (9, 0), (9, 0)]) K ⟨.inl rfl, .inl rfl, .inl rfl, .inl rfl, .inl rfl, .inl rfl, .inl rfl, .inl rfl, .inl rfl, .inr rfl, .inl rfl, .inl rfl, .inl rfl, .inl rfl, .inl rfl, trivial⟩
  obtain rfl := Option.some.inj h
  exact ev_sub (L2 := [(9, 0), (9, 0), (9, 0), (9, 0), (9, 0), (9, 0), (9, 0), (9, 0), (9, 0), (0, x9), (9, 0), (9, 0), (9, 0), (9, 0), (9, 0)]) K ⟨.inl rfl, .inl rfl, .inl rfl, .inl rfl, .inl rfl, .inl rfl, .inl rfl, .inl rfl, .inl rfl, .inr rfl, .inl rfl, .inl rfl, .inl rfl, .inl rfl, .inl rfl, trivial⟩
set_option maxHeartbeats 4000000 in
set_option maxRecDepth 20000 in
theorem e_X10_firstWrong_51 (σ : Mem) (x1 x3 x4 x6 x7 x8 x9 : Int)  {q : (Int × Mem)} (h : f_X10_firstWrong_51 σ x1 x3 x4 x6 x7 x8 x9 = some q) : Ev M_X10_firstWrong 210 210 (some (0, q.1), rho, q.2) 51 210 rho σ [(2, (0 : Int)), (0, x1), (9, 0), (0, x3), (0, x4), (9, 0), (0, x6), (0, x7), (0, x8), (0, x9), (9, 0), (9, 0), (9, 0), (9, 0), (9, 0)] [] := by
  unfold f_X10_firstWrong_51 at h
  obtain ⟨e, hl, h⟩ := bind_of h
  refine loop_ev (K := K_X10_firstWrong_51 σ x1 x3 x4 (some (0, q.1), rho, q.2)) (b_X10_firstWrong_51 σ x1 x3 x4) FU (x6, x7, x8, x9) e hl ?_
  rcases e with e | e
  · show Ev M_X10_firstWrong 210 210 _ 93 210 rho σ [(9, 0), (9, 0), (9, 0), (9, 0), (9, 0), (9, 0), (9, 0), (9, 0), (9, 0), (0, e), (9, 0), (9, 0), (9, 0), (9, 0), (9, 0)] []
    replace h : some (e, σ) = some q := h
    refine ev_iload dX10_firstWrong_93 rfl ?_
    obtain rfl := Option.some.inj h
    dsimp only
    exact ev_iret dX10_firstWrong_95 rfl rfl
  rcases e with e | e
  · show Ev M_X10_firstWrong 210 210 _ 170 210 rho σ [(9, 0), (9, 0), (9, 0), (9, 0), (9, 0), (9, 0), (9, 0), (9, 0), (9, 0), (0, e), (9, 0), (9, 0), (9, 0), (9, 0), (9, 0)] []
    replace h : some (e, σ) = some q := h
    refine ev_iload dX10_firstWrong_170 rfl ?_
    obtain rfl := Option.some.inj h
    dsimp only
    exact ev_iret dX10_firstWrong_172 rfl rfl
  · show Ev M_X10_firstWrong 210 210 _ 192 210 rho σ [(9, 0), (9, 0), (9, 0), (9, 0), (9, 0), (9, 0), (9, 0), (9, 0), (9, 0), (9, 0), (9, 0), (9, 0), (9, 0), (9, 0), (9, 0)] []
    replace h : some ((-1 : Int), σ) = some q := h
    refine ev_iconst dX10_firstWrong_192 (by decide) ?_
    obtain rfl := Option.some.inj h
    dsimp only
    exact ev_iret dX10_firstWrong_193 rfl rfl
set_option maxHeartbeats 4000000 in
set_option maxRecDepth 20000 in
theorem c_X10_firstWrong {σ : Mem} {x1 x2 x3 x4 : Int}  {q : (Int × Mem)} (h : f_X10_firstWrong σ x1 x2 x3 x4 = some q) : Ms yX10_firstWrong M_X10_firstWrong 210 210 [(2, (0 : Int)), (0, x1), (0, x2), (0, x3), (0, x4)] rho σ (some (0, q.1), rho, q.2) := by
  refine Ms.of 10 (by decide +kernel) rfl (fun z => absurd z (by decide)) (fun _ _ _ => trivial) rfl rfl ?_
  unfold f_X10_firstWrong at h
  show Ev M_X10_firstWrong 210 210 _ 0 210 rho σ [(2, (0 : Int)), (0, x1), (0, x2), (0, x3), (0, x4), (9, 0), (9, 0), (9, 0), (9, 0), (9, 0), (9, 0), (9, 0), (9, 0), (9, 0), (9, 0)] []
  refine ev_aload_n dX10_firstWrong_0 rfl (by decide) ?_
  refine ev_getf (j := 8) (t := 2) (x := (43 : Int)) dX10_firstWrong_1 cf_X10 wf_X10_52 sp0 (by decide) (by decide) rfl (by decide) (rp0_8 _) ?_
  refine ev_iload_n dX10_firstWrong_4 rfl ?_
  obtain ⟨v1, hc2, h⟩ := bind_of h
  refine ev_invV_v (k := (43 : Int)) (av := [(0, x1)]) (st := []) (v := (2, v1.1)) (τ := v1.2) dX10_firstWrong_5 ml_X10_245 mv_X9_of (T := TX9) (ci := 8) rfl sp43 (by decide) (by decide) rfl ⟨Nat.le_of_ble_eq_true rfl, Nat.le_of_ble_eq_true rfl⟩ (Nat.le_of_ble_eq_true rfl) (c_X9_of hc2) ?_
  have hw3 := w_X9_of hc2
  refine ev_astore dX10_firstWrong_8 rfl (by decide) (pW hw3).1 ?_
  show Ev _ _ _ _ 10 _ _ _ [(2, (0 : Int)), (0, x1), (0, x2), (0, x3), (0, x4), (2, v1.1), (9, 0), (9, 0), (9, 0), (9, 0), (9, 0), (9, 0), (9, 0), (9, 0), (9, 0)] _
  refine ev_aload_n dX10_firstWrong_10 rfl (by decide) ?_
  refine ev_getf (j := 0) (t := 2) (x := (1 : Int)) dX10_firstWrong_11 cf_X10 wf_X10_12 sp0 (by decide) (by decide) rfl (by decide) (rp0_0 _) ?_
  refine ev_getf (j := 6) (t := 2) (x := (8 : Int)) dX10_firstWrong_14 cf_X0 wf_X10_239 sp1 (by decide) (by decide) rfl (by decide) (rp1_6 _) ?_
  refine ev_iload_n dX10_firstWrong_17 rfl ?_
  refine ev_iald dX10_firstWrong_18 sp8 (by decide) (by decide) h (fun h => ?_)
  refine ev_aload_n dX10_firstWrong_19 rfl (by decide) ?_
  show Ev _ _ _ _ 20 _ _ _ _ _
  refine ev_getf (j := 0) (t := 2) (x := (1 : Int)) dX10_firstWrong_20 cf_X10 wf_X10_12 sp0 (by decide) (by decide) rfl (by decide) (rp0_0 _) ?_
  refine ev_iload_n dX10_firstWrong_23 rfl ?_
  obtain ⟨v4, hc5, h⟩ := bind_of h
  refine ev_invV_v (k := (1 : Int)) (av := [(0, x2)]) (st := [(0, (v1.2 (8 : Int) x1))]) (v := (0, v4)) (τ := v1.2) dX10_firstWrong_24 ml_X10_437 mv_X0_papersOf (T := TX0) (ci := 0) rfl sp1 (by decide) (by decide) rfl ⟨Nat.le_of_ble_eq_true rfl, Nat.le_of_ble_eq_true rfl⟩ (Nat.le_of_ble_eq_true rfl) (c_X0_papersOf hB1 hc5) ?_
  refine ev_iand dX10_firstWrong_27 ?_
  refine ev_istoreG dX10_firstWrong_28 h rfl (by decide) (fun v6 h => ?_)
  show Ev _ _ _ _ 30 _ _ _ [(2, (0 : Int)), (0, x1), (0, x2), (0, x3), (0, x4), (2, v1.1), (0, v6), (9, 0), (9, 0), (9, 0), (9, 0), (9, 0), (9, 0), (9, 0), (9, 0)] _
  refine ev_aload dX10_firstWrong_30 rfl (pW hw3).1 ?_
  refine ev_getf (j := 2) (t := 2) (x := (v1.1 + 3)) dX10_firstWrong_32 cf_X8 wf_X10_284 (sW hw3) (pW hw3).1 (pW hw3).2 rfl (by decide) (rW2 _ hw3) ?_
  refine ev_iload_n dX10_firstWrong_35 rfl ?_
  refine ev_iald dX10_firstWrong_36 (sW2 hw3) (pW2 hw3).1 (pW2 hw3).2 h (fun h => ?_)
  refine ev_istoreG dX10_firstWrong_37 h rfl (by decide) (fun v7 h => ?_)
  show Ev _ _ _ _ 39 _ _ _ [(2, (0 : Int)), (0, x1), (0, x2), (0, x3), (0, x4), (2, v1.1), (0, v6), (0, v7), (9, 0), (9, 0), (9, 0), (9, 0), (9, 0), (9, 0), (9, 0)] _
  refine ev_aload dX10_firstWrong_39 rfl (pW hw3).1 ?_
  refine ev_getf (j := 3) (t := 2) (x := (v1.1 + 4)) dX10_firstWrong_41 cf_X8 wf_X10_287 (sW hw3) (pW hw3).1 (pW hw3).2 rfl (by decide) (rW3 _ hw3) ?_
  show Ev _ _ _ _ 44 _ _ _ _ _
  refine ev_iload_n dX10_firstWrong_44 rfl ?_
  refine ev_iald dX10_firstWrong_45 (sW3 hw3) (pW3 hw3).1 (pW3 hw3).2 h (fun h => ?_)
  refine ev_istoreG dX10_firstWrong_46 h rfl (by decide) (fun v8 h => ?_)
  show Ev _ _ _ _ 48 _ _ _ [(2, (0 : Int)), (0, x1), (0, x2), (0, x3), (0, x4), (2, v1.1), (0, v6), (0, v7), (0, v8), (9, 0), (9, 0), (9, 0), (9, 0), (9, 0), (9, 0)] _
  refine ev_iconst dX10_firstWrong_48 (by decide) ?_
  refine ev_istore dX10_firstWrong_49 rfl (by decide) ?_
  show Ev _ _ _ _ 51 _ _ _ [(2, (0 : Int)), (0, x1), (0, x2), (0, x3), (0, x4), (2, v1.1), (0, v6), (0, v7), (0, v8), (0, (0 : Int)), (9, 0), (9, 0), (9, 0), (9, 0), (9, 0)] _
  exact ev_sub (L2 := [(2, (0 : Int)), (0, x1), (9, 0), (0, x3), (0, x4), (9, 0), (0, v6), (0, v7), (0, v8), (0, (0 : Int)), (9, 0), (9, 0), (9, 0), (9, 0), (9, 0)]) (e_X10_firstWrong_51 v1.2 x1 x3 x4 v6 v7 v8 (0 : Int) h) ⟨.inr rfl, .inr rfl, .inl rfl, .inr rfl, .inr rfl, .inl rfl, .inr rfl, .inr rfl, .inr rfl, .inr rfl, .inl rfl, .inl rfl, .inl rfl, .inl rfl, .inl rfl, trivial⟩
set_option maxHeartbeats 4000000 in
set_option maxRecDepth 20000 in
theorem e_X10_judge_33 (σ : Mem)  {q : (Int × Mem)} (h : f_X10_judge_33 σ  = some q) : Ev M_X10_judge 210 210 (some (0, q.1), rho, q.2) 33 210 rho σ [(2, (0 : Int)), (9, 0), (9, 0), (9, 0), (9, 0), (9, 0)] [] := by
  unfold f_X10_judge_33 at h
  refine ev_aload_n dX10_judge_33 rfl (by decide) ?_
  refine ev_bipush dX10_judge_34 (by decide) (by decide) ?_
  obtain ⟨v19, hc20, h⟩ := bind_of h
  refine ev_invV_v (k := (0 : Int)) (av := [(0, (-52 : Int))]) (st := []) (v := (0, v19.1)) (τ := v19.2) dX10_judge_36 ml_X10_90 mv_X10_refuse (T := TX10) (ci := 9) rfl sp0 (by decide) (by decide) rfl ⟨Nat.le_of_ble_eq_true rfl, Nat.le_of_ble_eq_true rfl⟩ (Nat.le_of_ble_eq_true rfl) (c_X10_refuse hc20) ?_
  obtain rfl := Option.some.inj h
  dsimp only
  exact ev_iret dX10_judge_39 rfl rfl
set_option maxHeartbeats 4000000 in
set_option maxRecDepth 20000 in
theorem c_X10_judge {σ : Mem} {x1 x2 x3 x4 : Int}  {q : (Int × Mem)} (h : f_X10_judge σ x1 x2 x3 x4 = some q) : Ms yX10_judge M_X10_judge 210 210 [(2, (0 : Int)), (0, x1), (0, x2), (0, x3), (0, x4)] rho σ (some (0, q.1), rho, q.2) := by
  refine Ms.of 1 (by decide +kernel) rfl (fun z => absurd z (by decide)) (fun _ _ _ => trivial) rfl rfl ?_
  unfold f_X10_judge at h
  show Ev M_X10_judge 210 210 _ 0 210 rho σ [(2, (0 : Int)), (0, x1), (0, x2), (0, x3), (0, x4), (9, 0)] []
  refine ev_aload_n dX10_judge_0 rfl (by decide) ?_
  refine ev_getf (j := 0) (t := 2) (x := (1 : Int)) dX10_judge_1 cf_X10 wf_X10_12 sp0 (by decide) (by decide) rfl (by decide) (rp0_0 _) ?_
  refine ev_iload_n dX10_judge_4 rfl ?_
  obtain ⟨v1, hc2, h⟩ := bind_of h
  refine ev_invV_v (k := (1 : Int)) (av := [(0, x1)]) (st := []) (v := (0, v1)) (τ := σ) dX10_judge_5 ml_X10_124 mv_X0_hasCand (T := TX0) (ci := 0) rfl sp1 (by decide) (by decide) rfl ⟨Nat.le_of_ble_eq_true rfl, Nat.le_of_ble_eq_true rfl⟩ (Nat.le_of_ble_eq_true rfl) (c_X0_hasCand hB1 hc2) ?_
  refine ev_if_eq (tgt := 33) dX10_judge_8 rfl h (fun cb h => ?_) (fun cb h => ?_)
  · exact ev_sub (L2 := [(2, (0 : Int)), (9, 0), (9, 0), (9, 0), (9, 0), (9, 0)]) (e_X10_judge_33 σ h) ⟨.inr rfl, .inl rfl, .inl rfl, .inl rfl, .inl rfl, .inl rfl, trivial⟩
  refine ev_iload_n dX10_judge_11 rfl ?_
  obtain ⟨v3, hc4, h⟩ := bind_of h
  refine ev_invS_v (av := [(0, x2)]) (st := []) (v := (0, v3)) (τ := σ) dX10_judge_12 ml_X10_152 mt_X10_isDay rfl ⟨Nat.le_of_ble_eq_true rfl, Nat.le_of_ble_eq_true rfl⟩ (Nat.le_of_ble_eq_true rfl) (c_X10_isDay hc4) ?_
  refine ev_if_eq (tgt := 33) dX10_judge_15 rfl h (fun cb h => ?_) (fun cb h => ?_)
  · exact ev_sub (L2 := [(2, (0 : Int)), (9, 0), (9, 0), (9, 0), (9, 0), (9, 0)]) (e_X10_judge_33 σ h) ⟨.inr rfl, .inl rfl, .inl rfl, .inl rfl, .inl rfl, .inl rfl, trivial⟩
  refine ev_iload_n dX10_judge_18 rfl ?_
  obtain ⟨v5, hc6, h⟩ := bind_of h
  refine ev_invS_v (av := [(0, x3)]) (st := []) (v := (0, v5)) (τ := σ) dX10_judge_19 ml_X10_83 mt_X6_isShelf rfl ⟨Nat.le_of_ble_eq_true rfl, Nat.le_of_ble_eq_true rfl⟩ (Nat.le_of_ble_eq_true rfl) (c_X6_isShelf hc6) ?_
  refine ev_if_eq (tgt := 33) dX10_judge_22 rfl h (fun cb h => ?_) (fun cb h => ?_)
  · exact ev_sub (L2 := [(2, (0 : Int)), (9, 0), (9, 0), (9, 0), (9, 0), (9, 0)]) (e_X10_judge_33 σ h) ⟨.inr rfl, .inl rfl, .inl rfl, .inl rfl, .inl rfl, .inl rfl, trivial⟩
  refine ev_iload dX10_judge_25 rfl ?_
  obtain ⟨v7, hc8, h⟩ := bind_of h
  refine ev_invS_v (av := [(0, x4)]) (st := []) (v := (0, v7)) (τ := σ) dX10_judge_27 ml_X10_386 mt_X10_isTold rfl ⟨Nat.le_of_ble_eq_true rfl, Nat.le_of_ble_eq_true rfl⟩ (Nat.le_of_ble_eq_true rfl) (c_X10_isTold hc8) ?_
  refine ev_if_ne (tgt := 40) dX10_judge_30 rfl h (fun cb h => ?_) (fun cb h => ?_)
  · refine ev_aload_n dX10_judge_40 rfl (by decide) ?_
    refine ev_getf (j := 5) (t := 2) (x := (30 : Int)) dX10_judge_41 cf_X10 wf_X10_32 sp0 (by decide) (by decide) rfl (by decide) (rp0_5 _) ?_
    refine ev_iload_n dX10_judge_44 rfl ?_
    obtain ⟨v9, hc10, h⟩ := bind_of h
    refine ev_invV_v (k := (30 : Int)) (av := [(0, x3)]) (st := []) (v := (0, v9)) (τ := σ) dX10_judge_45 ml_X10_98 mv_X6_rowTrouble (T := TX6) (ci := 5) rfl sp30 (by decide) (by decide) rfl ⟨Nat.le_of_ble_eq_true rfl, Nat.le_of_ble_eq_true rfl⟩ (Nat.le_of_ble_eq_true rfl) (c_X6_rowTrouble hc10) ?_
    refine ev_istore dX10_judge_48 rfl (by decide) ?_
    show Ev _ _ _ _ 50 _ _ _ [(2, (0 : Int)), (0, x1), (0, x2), (0, x3), (0, x4), (0, v9)] _
    refine ev_iload dX10_judge_50 rfl ?_
    refine ev_if_eq (tgt := 62) dX10_judge_52 rfl h (fun cb h => ?_) (fun cb h => ?_)
    · refine ev_aload_n dX10_judge_62 rfl (by decide) ?_
      refine ev_getf (j := 5) (t := 2) (x := (30 : Int)) dX10_judge_63 cf_X10 wf_X10_32 sp0 (by decide) (by decide) rfl (by decide) (rp0_5 _) ?_
      refine ev_iload_n dX10_judge_66 rfl ?_
      refine ev_iconst dX10_judge_67 (by decide) ?_
      refine ev_iload dX10_judge_68 rfl ?_
      obtain ⟨v11, hc12, h⟩ := bind_of h
      refine ev_invV_v (k := (30 : Int)) (av := [(0, x3), (0, (0 : Int)), (0, x4)]) (st := []) (v := (0, v11)) (τ := σ) dX10_judge_70 ml_X10_112 mv_X6_hasElements (T := TX6) (ci := 5) rfl sp30 (by decide) (by decide) rfl ⟨Nat.le_of_ble_eq_true rfl, Nat.le_of_ble_eq_true rfl⟩ (Nat.le_of_ble_eq_true rfl) (c_X6_hasElements hc12) ?_
      refine ev_if_ne (tgt := 83) dX10_judge_73 rfl h (fun cb h => ?_) (fun cb h => ?_)
      · refine ev_aload_n dX10_judge_83 rfl (by decide) ?_
        refine ev_iload_n dX10_judge_84 rfl ?_
        refine ev_iload_n dX10_judge_85 rfl ?_
        refine ev_iload_n dX10_judge_86 rfl ?_
        refine ev_iload dX10_judge_87 rfl ?_
        obtain ⟨v13, hc14, h⟩ := bind_of h
        refine ev_invV_v (k := (0 : Int)) (av := [(0, x1), (0, x2), (0, x3), (0, x4)]) (st := []) (v := (0, v13.1)) (τ := v13.2) dX10_judge_89 ml_X10_393 mv_X10_firstWrong (T := TX10) (ci := 9) rfl sp0 (by decide) (by decide) rfl ⟨Nat.le_of_ble_eq_true rfl, Nat.le_of_ble_eq_true rfl⟩ (Nat.le_of_ble_eq_true rfl) (c_X10_firstWrong hc14) ?_
        obtain rfl := Option.some.inj h
        dsimp only
        exact ev_iret dX10_judge_92 rfl rfl
      refine ev_aload_n dX10_judge_76 rfl (by decide) ?_
      refine ev_bipush dX10_judge_77 (by decide) (by decide) ?_
      obtain ⟨v15, hc16, h⟩ := bind_of h
      refine ev_invV_v (k := (0 : Int)) (av := [(0, (-52 : Int))]) (st := []) (v := (0, v15.1)) (τ := v15.2) dX10_judge_79 ml_X10_90 mv_X10_refuse (T := TX10) (ci := 9) rfl sp0 (by decide) (by decide) rfl ⟨Nat.le_of_ble_eq_true rfl, Nat.le_of_ble_eq_true rfl⟩ (Nat.le_of_ble_eq_true rfl) (c_X10_refuse hc16) ?_
      obtain rfl := Option.some.inj h
      dsimp only
      exact ev_iret dX10_judge_82 rfl rfl
    refine ev_aload_n dX10_judge_55 rfl (by decide) ?_
    refine ev_iload dX10_judge_56 rfl ?_
    obtain ⟨v17, hc18, h⟩ := bind_of h
    refine ev_invV_v (k := (0 : Int)) (av := [(0, v9)]) (st := []) (v := (0, v17.1)) (τ := v17.2) dX10_judge_58 ml_X10_90 mv_X10_refuse (T := TX10) (ci := 9) rfl sp0 (by decide) (by decide) rfl ⟨Nat.le_of_ble_eq_true rfl, Nat.le_of_ble_eq_true rfl⟩ (Nat.le_of_ble_eq_true rfl) (c_X10_refuse hc18) ?_
    obtain rfl := Option.some.inj h
    dsimp only
    exact ev_iret dX10_judge_61 rfl rfl
  exact ev_sub (L2 := [(2, (0 : Int)), (9, 0), (9, 0), (9, 0), (9, 0), (9, 0)]) (e_X10_judge_33 σ h) ⟨.inr rfl, .inl rfl, .inl rfl, .inl rfl, .inl rfl, .inl rfl, trivial⟩
def K_X10_together_39 (x1 x2 x3 : Int) (r : Option V × Mem × Mem) : (Int × Int × Mem) ⊕ ((Int × Mem)) → Prop := Sum.elim (fun a => Ev M_X10_together 210 210 r 39 210 rho a.2.2 [(2, (0 : Int)), (0, x1), (0, x2), (0, x3), (0, a.1), (0, a.2.1)] []) (fun e => Ev M_X10_together 210 210 r 84 210 rho e.2 [(9, 0), (9, 0), (9, 0), (9, 0), (0, e.1), (9, 0)] [])
set_option maxHeartbeats 4000000 in
set_option maxRecDepth 20000 in
theorem e_X10_together_26 (σ : Mem)  {q : (Int × Mem)} (h : f_X10_together_26 σ  = some q) : Ev M_X10_together 210 210 (some (0, q.1), rho, q.2) 26 210 rho σ [(2, (0 : Int)), (9, 0), (9, 0), (9, 0), (9, 0), (9, 0)] [] := by
  unfold f_X10_together_26 at h
  refine ev_aload_n dX10_together_26 rfl (by decide) ?_
  refine ev_bipush dX10_together_27 (by decide) (by decide) ?_
  obtain ⟨v7, hc8, h⟩ := bind_of h
  refine ev_invV_v (k := (0 : Int)) (av := [(0, (-52 : Int))]) (st := []) (v := (0, v7.1)) (τ := v7.2) dX10_together_29 ml_X10_90 mv_X10_refuse (T := TX10) (ci := 9) rfl sp0 (by decide) (by decide) rfl ⟨Nat.le_of_ble_eq_true rfl, Nat.le_of_ble_eq_true rfl⟩ (Nat.le_of_ble_eq_true rfl) (c_X10_refuse hc8) ?_
  obtain rfl := Option.some.inj h
  dsimp only
  exact ev_iret dX10_together_32 rfl rfl
set_option maxHeartbeats 4000000 in
set_option maxRecDepth 20000 in
theorem e_X10_together_78 (σ : Mem) (x1 x2 x3 x4 x5 : Int)  {q : ((Int × Int × Mem) ⊕ ((Int × Mem)))} (h : f_X10_together_78 σ x1 x2 x3 x4 x5 = some q) {r : Option V × Mem × Mem} (K : K_X10_together_39 x1 x2 x3 r q) : Ev M_X10_together 210 210 r 78 210 rho σ [(2, (0 : Int)), (0, x1), (0, x2), (0, x3), (0, x4), (0, x5)] [] := by
  unfold f_X10_together_78 at h
  refine ev_iincG dX10_together_78 rfl h rfl (fun v15 h => ?_)
  show Ev _ _ _ _ 81 _ _ _ [(2, (0 : Int)), (0, x1), (0, x2), (0, x3), (0, x4), (0, v15)] _
  refine ev_goto (tgt := 39) dX10_together_81 rfl ?_
  obtain rfl := Option.some.inj h
  exact ev_sub (L2 := [(2, (0 : Int)), (0, x1), (0, x2), (0, x3), (0, x4), (0, v15)]) K ⟨.inr rfl, .inr rfl, .inr rfl, .inr rfl, .inr rfl, .inr rfl, trivial⟩
set_option maxHeartbeats 4000000 in
set_option maxRecDepth 20000 in
theorem b_X10_together_39 (x1 x2 x3 : Int)  {r : Option V × Mem × Mem} : ∀ a x, f_X10_together_39B x1 x2 x3 a = some x → K_X10_together_39 x1 x2 x3 r x → K_X10_together_39 x1 x2 x3 r (.inl a) := by
  intro a x h K
  obtain ⟨x4, x5, σ⟩ := a
  have h : f_X10_together_39C x1 x2 x3 x4 x5 σ = some x := h
  unfold f_X10_together_39C at h
  show Ev M_X10_together 210 210 r 39 210 rho σ [(2, (0 : Int)), (0, x1), (0, x2), (0, x3), (0, x4), (0, x5)] []
  refine ev_iload dX10_together_39 rfl ?_
  refine ev_aload_n dX10_together_41 rfl (by decide) ?_
  refine ev_getf (j := 0) (t := 2) (x := (1 : Int)) dX10_together_42 cf_X10 wf_X10_12 sp0 (by decide) (by decide) rfl (by decide) (rp0_0 _) ?_
  refine ev_getf (j := 9) (t := 0) (x := (σ (1 : Int) 9)) dX10_together_45 cf_X0 wf_X10_176 sp1 (by decide) (by decide) rfl (by decide) rfl ?_
  refine ev_icmp_ge (tgt := 84) dX10_together_48 rfl h (fun cb h => ?_) (fun cb h => ?_)
  · obtain rfl := Option.some.inj h
    exact ev_sub (L2 := [(9, 0), (9, 0), (9, 0), (9, 0), (0, x4), (9, 0)]) K ⟨.inl rfl, .inl rfl, .inl rfl, .inl rfl, .inr rfl, .inl rfl, trivial⟩
  refine ev_aload_n dX10_together_51 rfl (by decide) ?_
  refine ev_getf (j := 8) (t := 2) (x := (43 : Int)) dX10_together_52 cf_X10 wf_X10_52 sp0 (by decide) (by decide) rfl (by decide) (rp0_8 _) ?_
  refine ev_iload dX10_together_55 rfl ?_
  obtain ⟨v9, hc10, h⟩ := bind_of h
  refine ev_invV_v (k := (43 : Int)) (av := [(0, x5)]) (st := []) (v := (2, v9.1)) (τ := v9.2) dX10_together_57 ml_X10_245 mv_X9_of (T := TX9) (ci := 8) rfl sp43 (by decide) (by decide) rfl ⟨Nat.le_of_ble_eq_true rfl, Nat.le_of_ble_eq_true rfl⟩ (Nat.le_of_ble_eq_true rfl) (c_X9_of hc10) ?_
  have hw11 := w_X9_of hc10
  refine ev_iload_n dX10_together_60 rfl ?_
  refine ev_iload_n dX10_together_61 rfl ?_
  obtain ⟨v12, hc13, h⟩ := bind_of h
  refine ev_invV_v (k := v9.1) (av := [(0, x2), (0, x3)]) (st := []) (v := (0, v12)) (τ := v9.2) dX10_together_62 ml_X10_306 mv_X8_deed (T := TX8) (ci := 7) rfl (sW hw11) (pW hw11).1 (pW hw11).2 rfl ⟨Nat.le_of_ble_eq_true rfl, Nat.le_of_ble_eq_true rfl⟩ (Nat.le_of_ble_eq_true rfl) (c_X8_deed hw11 hc13) ?_
  refine ev_iload_n dX10_together_65 rfl ?_
  refine ev_icmp_ne (tgt := 78) dX10_together_66 rfl h (fun cb h => ?_) (fun cb h => ?_)
  · exact ev_sub (L2 := [(2, (0 : Int)), (0, x1), (0, x2), (0, x3), (0, x4), (0, x5)]) (e_X10_together_78 v9.2 x1 x2 x3 x4 x5 h K) ⟨.inr rfl, .inr rfl, .inr rfl, .inr rfl, .inr rfl, .inr rfl, trivial⟩
  refine ev_iload dX10_together_69 rfl ?_
  refine ev_iconst dX10_together_71 (by decide) ?_
  refine ev_iload dX10_together_72 rfl ?_
  refine ev_ishl dX10_together_74 ?_
  refine ev_ior dX10_together_75 ?_
  refine ev_istoreG dX10_together_76 h rfl (by decide) (fun v14 h => ?_)
  show Ev _ _ _ _ 78 _ _ _ [(2, (0 : Int)), (0, x1), (0, x2), (0, x3), (0, v14), (0, x5)] _
  exact ev_sub (L2 := [(2, (0 : Int)), (0, x1), (0, x2), (0, x3), (0, v14), (0, x5)]) (e_X10_together_78 v9.2 x1 x2 x3 v14 x5 h K) ⟨.inr rfl, .inr rfl, .inr rfl, .inr rfl, .inr rfl, .inr rfl, trivial⟩
set_option maxHeartbeats 4000000 in
set_option maxRecDepth 20000 in
theorem e_X10_together_39 (σ : Mem) (x1 x2 x3 x4 x5 : Int)  {q : (Int × Mem)} (h : f_X10_together_39 σ x1 x2 x3 x4 x5 = some q) : Ev M_X10_together 210 210 (some (0, q.1), rho, q.2) 39 210 rho σ [(2, (0 : Int)), (0, x1), (0, x2), (0, x3), (0, x4), (0, x5)] [] := by
  unfold f_X10_together_39 at h
  obtain ⟨e, hl, h⟩ := bind_of h
  refine loop_ev (K := K_X10_together_39 x1 x2 x3 (some (0, q.1), rho, q.2)) (b_X10_together_39 x1 x2 x3) FU (x4, x5, σ) e hl ?_
  show Ev M_X10_together 210 210 _ 84 210 rho e.2 [(9, 0), (9, 0), (9, 0), (9, 0), (0, e.1), (9, 0)] []
  replace h : some (e.1, e.2) = some q := h
  refine ev_iload dX10_together_84 rfl ?_
  obtain rfl := Option.some.inj h
  dsimp only
  exact ev_iret dX10_together_86 rfl rfl
set_option maxHeartbeats 4000000 in
set_option maxRecDepth 20000 in
theorem c_X10_together {σ : Mem} {x1 x2 x3 : Int}  {q : (Int × Mem)} (h : f_X10_together σ x1 x2 x3 = some q) : Ms yX10_together M_X10_together 210 210 [(2, (0 : Int)), (0, x1), (0, x2), (0, x3)] rho σ (some (0, q.1), rho, q.2) := by
  refine Ms.of 2 (by decide +kernel) rfl (fun z => absurd z (by decide)) (fun _ _ _ => trivial) rfl rfl ?_
  unfold f_X10_together at h
  show Ev M_X10_together 210 210 _ 0 210 rho σ [(2, (0 : Int)), (0, x1), (0, x2), (0, x3), (9, 0), (9, 0)] []
  refine ev_aload_n dX10_together_0 rfl (by decide) ?_
  refine ev_getf (j := 0) (t := 2) (x := (1 : Int)) dX10_together_1 cf_X10 wf_X10_12 sp0 (by decide) (by decide) rfl (by decide) (rp0_0 _) ?_
  refine ev_iload_n dX10_together_4 rfl ?_
  refine ev_i2lk dX10_together_5 ?_
  obtain ⟨v1, hc2, h⟩ := bind_of h
  refine ev_invV_v (k := (1 : Int)) (av := [(1, x1)]) (st := []) (v := (0, v1)) (τ := σ) dX10_together_6 ml_X10_166 mv_X0_hasPaper (T := TX0) (ci := 0) rfl sp1 (by decide) (by decide) rfl ⟨Nat.le_of_ble_eq_true rfl, Nat.le_of_ble_eq_true rfl⟩ (Nat.le_of_ble_eq_true rfl) (c_X0_hasPaper hB1 hc2) ?_
  refine ev_if_eq (tgt := 26) dX10_together_9 rfl h (fun cb h => ?_) (fun cb h => ?_)
  · exact ev_sub (L2 := [(2, (0 : Int)), (9, 0), (9, 0), (9, 0), (9, 0), (9, 0)]) (e_X10_together_26 σ h) ⟨.inr rfl, .inl rfl, .inl rfl, .inl rfl, .inl rfl, .inl rfl, trivial⟩
  refine ev_iload_n dX10_together_12 rfl ?_
  obtain ⟨v3, hc4, h⟩ := bind_of h
  refine ev_invS_v (av := [(0, x2)]) (st := []) (v := (0, v3)) (τ := σ) dX10_together_13 ml_X10_152 mt_X10_isDay rfl ⟨Nat.le_of_ble_eq_true rfl, Nat.le_of_ble_eq_true rfl⟩ (Nat.le_of_ble_eq_true rfl) (c_X10_isDay hc4) ?_
  refine ev_if_eq (tgt := 26) dX10_together_16 rfl h (fun cb h => ?_) (fun cb h => ?_)
  · exact ev_sub (L2 := [(2, (0 : Int)), (9, 0), (9, 0), (9, 0), (9, 0), (9, 0)]) (e_X10_together_26 σ h) ⟨.inr rfl, .inl rfl, .inl rfl, .inl rfl, .inl rfl, .inl rfl, trivial⟩
  refine ev_iload_n dX10_together_19 rfl ?_
  obtain ⟨v5, hc6, h⟩ := bind_of h
  refine ev_invS_v (av := [(0, x3)]) (st := []) (v := (0, v5)) (τ := σ) dX10_together_20 ml_X10_155 mt_X10_isSlot rfl ⟨Nat.le_of_ble_eq_true rfl, Nat.le_of_ble_eq_true rfl⟩ (Nat.le_of_ble_eq_true rfl) (c_X10_isSlot hc6) ?_
  refine ev_if_ne (tgt := 33) dX10_together_23 rfl h (fun cb h => ?_) (fun cb h => ?_)
  · refine ev_iconst dX10_together_33 (by decide) ?_
    refine ev_istore dX10_together_34 rfl (by decide) ?_
    show Ev _ _ _ _ 36 _ _ _ [(2, (0 : Int)), (0, x1), (0, x2), (0, x3), (0, (0 : Int)), (9, 0)] _
    refine ev_iconst dX10_together_36 (by decide) ?_
    refine ev_istore dX10_together_37 rfl (by decide) ?_
    show Ev _ _ _ _ 39 _ _ _ [(2, (0 : Int)), (0, x1), (0, x2), (0, x3), (0, (0 : Int)), (0, (0 : Int))] _
    exact ev_sub (L2 := [(2, (0 : Int)), (0, x1), (0, x2), (0, x3), (0, (0 : Int)), (0, (0 : Int))]) (e_X10_together_39 σ x1 x2 x3 (0 : Int) (0 : Int) h) ⟨.inr rfl, .inr rfl, .inr rfl, .inr rfl, .inr rfl, .inr rfl, trivial⟩
  exact ev_sub (L2 := [(2, (0 : Int)), (9, 0), (9, 0), (9, 0), (9, 0), (9, 0)]) (e_X10_together_26 σ h) ⟨.inr rfl, .inl rfl, .inl rfl, .inl rfl, .inl rfl, .inl rfl, trivial⟩
def K_X10_changes_49 (x1 : Int) (r : Option V × Mem × Mem) : (Int × Int × Mem) ⊕ ((Int × Mem)) → Prop := Sum.elim (fun a => Ev M_X10_changes 210 210 r 49 210 rho a.2.2 [(2, (0 : Int)), (0, x1), (0, a.1), (0, a.2.1), (9, 0), (9, 0)] []) (fun e => Ev M_X10_changes 210 210 r 145 210 rho e.2 [(2, (0 : Int)), (9, 0), (0, e.1), (9, 0), (9, 0), (9, 0)] [])
set_option maxHeartbeats 4000000 in
set_option maxRecDepth 20000 in
theorem e_X10_changes_11 (σ : Mem)  {q : (Int × Mem)} (h : f_X10_changes_11 σ  = some q) : Ev M_X10_changes 210 210 (some (0, q.1), rho, q.2) 11 210 rho σ [(2, (0 : Int)), (9, 0), (9, 0), (9, 0), (9, 0), (9, 0)] [] := by
  unfold f_X10_changes_11 at h
  refine ev_aload_n dX10_changes_11 rfl (by decide) ?_
  refine ev_bipush dX10_changes_12 (by decide) (by decide) ?_
  obtain ⟨v1, hc2, h⟩ := bind_of h
  refine ev_invV_v (k := (0 : Int)) (av := [(0, (-52 : Int))]) (st := []) (v := (0, v1.1)) (τ := v1.2) dX10_changes_14 ml_X10_90 mv_X10_refuse (T := TX10) (ci := 9) rfl sp0 (by decide) (by decide) rfl ⟨Nat.le_of_ble_eq_true rfl, Nat.le_of_ble_eq_true rfl⟩ (Nat.le_of_ble_eq_true rfl) (c_X10_refuse hc2) ?_
  obtain rfl := Option.some.inj h
  dsimp only
  exact ev_iret dX10_changes_17 rfl rfl
set_option maxHeartbeats 4000000 in
set_option maxRecDepth 20000 in
theorem e_X10_changes_38 (σ : Mem)  {q : (Int × Mem)} (h : f_X10_changes_38 σ  = some q) : Ev M_X10_changes 210 210 (some (0, q.1), rho, q.2) 38 210 rho σ [(2, (0 : Int)), (9, 0), (9, 0), (9, 0), (9, 0), (9, 0)] [] := by
  unfold f_X10_changes_38 at h
  refine ev_aload_n dX10_changes_38 rfl (by decide) ?_
  refine ev_bipush dX10_changes_39 (by decide) (by decide) ?_
  obtain ⟨v3, hc4, h⟩ := bind_of h
  refine ev_invV_v (k := (0 : Int)) (av := [(0, (-55 : Int))]) (st := []) (v := (0, v3.1)) (τ := v3.2) dX10_changes_41 ml_X10_90 mv_X10_refuse (T := TX10) (ci := 9) rfl sp0 (by decide) (by decide) rfl ⟨Nat.le_of_ble_eq_true rfl, Nat.le_of_ble_eq_true rfl⟩ (Nat.le_of_ble_eq_true rfl) (c_X10_refuse hc4) ?_
  obtain rfl := Option.some.inj h
  dsimp only
  exact ev_iret dX10_changes_44 rfl rfl
set_option maxHeartbeats 4000000 in
set_option maxRecDepth 20000 in
theorem e_X10_changes_139 (σ : Mem) (x1 x2 x3 : Int)  {q : ((Int × Int × Mem) ⊕ ((Int × Mem)))} (h : f_X10_changes_139 σ x1 x2 x3 = some q) {r : Option V × Mem × Mem} (K : K_X10_changes_49 x1 r q) : Ev M_X10_changes 210 210 r 139 210 rho σ [(2, (0 : Int)), (0, x1), (0, x2), (0, x3), (9, 0), (9, 0)] [] := by
  unfold f_X10_changes_139 at h
  refine ev_iincG dX10_changes_139 rfl h rfl (fun v20 h => ?_)
  show Ev _ _ _ _ 142 _ _ _ [(2, (0 : Int)), (0, x1), (0, x2), (0, v20), (9, 0), (9, 0)] _
  refine ev_goto (tgt := 49) dX10_changes_142 rfl ?_
  obtain rfl := Option.some.inj h
  exact ev_sub (L2 := [(2, (0 : Int)), (0, x1), (0, x2), (0, v20), (9, 0), (9, 0)]) K ⟨.inr rfl, .inr rfl, .inr rfl, .inr rfl, .inl rfl, .inl rfl, trivial⟩
set_option maxHeartbeats 4000000 in
set_option maxRecDepth 20000 in
theorem e_X10_changes_145 (σ : Mem) (x2 : Int)  {q : (Int × Mem)} (h : f_X10_changes_145 σ x2 = some q) : Ev M_X10_changes 210 210 (some (0, q.1), rho, q.2) 145 210 rho σ [(2, (0 : Int)), (9, 0), (0, x2), (9, 0), (9, 0), (9, 0)] [] := by
  unfold f_X10_changes_145 at h
  refine ev_aload_n dX10_changes_145 rfl (by decide) ?_
  refine ev_getf (j := 8) (t := 2) (x := (43 : Int)) dX10_changes_146 cf_X10 wf_X10_52 sp0 (by decide) (by decide) rfl (by decide) (rp0_8 _) ?_
  obtain ⟨σ21, hc22, h⟩ := bind_of h
  refine ev_invV_n (k := (43 : Int)) (av := []) (st := []) (τ := σ21) dX10_changes_149 ml_X10_173 mv_X9_forgetAll (T := TX9) (ci := 8) rfl sp43 (by decide) (by decide) rfl ⟨Nat.le_of_ble_eq_true rfl, Nat.le_of_ble_eq_true rfl⟩ (Nat.le_of_ble_eq_true rfl) (c_X9_forgetAll hc22) ?_
  refine ev_iload_n dX10_changes_152 rfl ?_
  obtain rfl := Option.some.inj h
  dsimp only
  exact ev_iret dX10_changes_153 rfl rfl
set_option maxHeartbeats 4000000 in
set_option maxRecDepth 20000 in
theorem b_X10_changes_49 (x1 : Int)  {r : Option V × Mem × Mem} : ∀ a x, f_X10_changes_49B x1 a = some x → K_X10_changes_49 x1 r x → K_X10_changes_49 x1 r (.inl a) := by
  intro a x h K
  obtain ⟨x2, x3, σ⟩ := a
  have h : f_X10_changes_49C x1 x2 x3 σ = some x := h
  unfold f_X10_changes_49C at h
  show Ev M_X10_changes 210 210 r 49 210 rho σ [(2, (0 : Int)), (0, x1), (0, x2), (0, x3), (9, 0), (9, 0)] []
  refine ev_iload_n dX10_changes_49 rfl ?_
  refine ev_iload_n dX10_changes_50 rfl ?_
  refine ev_icmp_ge (tgt := 145) dX10_changes_51 rfl h (fun cb h => ?_) (fun cb h => ?_)
  · obtain rfl := Option.some.inj h
    exact ev_sub (L2 := [(2, (0 : Int)), (9, 0), (0, x2), (9, 0), (9, 0), (9, 0)]) K ⟨.inr rfl, .inl rfl, .inr rfl, .inl rfl, .inl rfl, .inl rfl, trivial⟩
  refine ev_aload_n dX10_changes_54 rfl (by decide) ?_
  refine ev_getf (j := 0) (t := 2) (x := (1 : Int)) dX10_changes_55 cf_X10 wf_X10_12 sp0 (by decide) (by decide) rfl (by decide) (rp0_0 _) ?_
  refine ev_aload_n dX10_changes_58 rfl (by decide) ?_
  refine ev_getf (j := 0) (t := 2) (x := (1 : Int)) dX10_changes_59 cf_X10 wf_X10_12 sp0 (by decide) (by decide) rfl (by decide) (rp0_0 _) ?_
  refine ev_getf (j := 9) (t := 0) (x := (σ (1 : Int) 9)) dX10_changes_62 cf_X0 wf_X10_176 sp1 (by decide) (by decide) rfl (by decide) rfl ?_
  obtain ⟨v5, hc6, h⟩ := bind_of h
  refine ev_invV_v (k := (1 : Int)) (av := [(0, (σ (1 : Int) 9))]) (st := []) (v := (0, v5.1)) (τ := v5.2) dX10_changes_65 ml_X10_396 mv_X0_draw (T := TX0) (ci := 0) rfl sp1 (by decide) (by decide) rfl ⟨Nat.le_of_ble_eq_true rfl, Nat.le_of_ble_eq_true rfl⟩ (Nat.le_of_ble_eq_true rfl) (c_X0_draw hB1 hc6) ?_
  refine ev_istoreG dX10_changes_68 h rfl (by decide) (fun v7 h => ?_)
  show Ev _ _ _ _ 70 _ _ _ [(2, (0 : Int)), (0, x1), (0, x2), (0, x3), (0, v7), (9, 0)] _
  refine ev_aload_n dX10_changes_70 rfl (by decide) ?_
  refine ev_getf (j := 0) (t := 2) (x := (1 : Int)) dX10_changes_71 cf_X10 wf_X10_12 sp0 (by decide) (by decide) rfl (by decide) (rp0_0 _) ?_
  refine ev_aload_n dX10_changes_74 rfl (by decide) ?_
  refine ev_getf (j := 0) (t := 2) (x := (1 : Int)) dX10_changes_75 cf_X10 wf_X10_12 sp0 (by decide) (by decide) rfl (by decide) (rp0_0 _) ?_
  show Ev _ _ _ _ 78 _ _ _ _ _
  refine ev_getf (j := 8) (t := 0) (x := (v5.2 (1 : Int) 8)) dX10_changes_78 cf_X0 wf_X10_158 sp1 (by decide) (by decide) rfl (by decide) rfl ?_
  obtain ⟨v8, hc9, h⟩ := bind_of h
  refine ev_invV_v (k := (1 : Int)) (av := [(0, (v5.2 (1 : Int) 8))]) (st := []) (v := (0, v8.1)) (τ := v8.2) dX10_changes_81 ml_X10_396 mv_X0_draw (T := TX0) (ci := 0) rfl sp1 (by decide) (by decide) rfl ⟨Nat.le_of_ble_eq_true rfl, Nat.le_of_ble_eq_true rfl⟩ (Nat.le_of_ble_eq_true rfl) (c_X0_draw hB1 hc9) ?_
  refine ev_istoreG dX10_changes_84 h rfl (by decide) (fun v10 h => ?_)
  show Ev _ _ _ _ 86 _ _ _ [(2, (0 : Int)), (0, x1), (0, x2), (0, x3), (0, v7), (0, v10)] _
  refine ev_aload_n dX10_changes_86 rfl (by decide) ?_
  refine ev_getf (j := 0) (t := 2) (x := (1 : Int)) dX10_changes_87 cf_X10 wf_X10_12 sp0 (by decide) (by decide) rfl (by decide) (rp0_0 _) ?_
  refine ev_iload dX10_changes_90 rfl ?_
  obtain ⟨v11, hc12, h⟩ := bind_of h
  refine ev_invV_v (k := (1 : Int)) (av := [(0, v7)]) (st := []) (v := (0, v11)) (τ := v8.2) dX10_changes_92 ml_X10_124 mv_X0_hasCand (T := TX0) (ci := 0) rfl sp1 (by decide) (by decide) rfl ⟨Nat.le_of_ble_eq_true rfl, Nat.le_of_ble_eq_true rfl⟩ (Nat.le_of_ble_eq_true rfl) (c_X0_hasCand hB1 hc12) ?_
  refine ev_if_eq (tgt := 139) dX10_changes_95 rfl h (fun cb h => ?_) (fun cb h => ?_)
  · exact ev_sub (L2 := [(2, (0 : Int)), (0, x1), (0, x2), (0, x3), (9, 0), (9, 0)]) (e_X10_changes_139 v8.2 x1 x2 x3 h K) ⟨.inr rfl, .inr rfl, .inr rfl, .inr rfl, .inl rfl, .inl rfl, trivial⟩
  refine ev_aload_n dX10_changes_98 rfl (by decide) ?_
  refine ev_getf (j := 0) (t := 2) (x := (1 : Int)) dX10_changes_99 cf_X10 wf_X10_12 sp0 (by decide) (by decide) rfl (by decide) (rp0_0 _) ?_
  refine ev_iload dX10_changes_102 rfl ?_
  refine ev_i2lk dX10_changes_104 ?_
  obtain ⟨v13, hc14, h⟩ := bind_of h
  refine ev_invV_v (k := (1 : Int)) (av := [(1, v10)]) (st := []) (v := (0, v13)) (τ := v8.2) dX10_changes_105 ml_X10_166 mv_X0_hasPaper (T := TX0) (ci := 0) rfl sp1 (by decide) (by decide) rfl ⟨Nat.le_of_ble_eq_true rfl, Nat.le_of_ble_eq_true rfl⟩ (Nat.le_of_ble_eq_true rfl) (c_X0_hasPaper hB1 hc14) ?_
  refine ev_if_eq (tgt := 139) dX10_changes_108 rfl h (fun cb h => ?_) (fun cb h => ?_)
  · exact ev_sub (L2 := [(2, (0 : Int)), (0, x1), (0, x2), (0, x3), (9, 0), (9, 0)]) (e_X10_changes_139 v8.2 x1 x2 x3 h K) ⟨.inr rfl, .inr rfl, .inr rfl, .inr rfl, .inl rfl, .inl rfl, trivial⟩
  refine ev_aload_n dX10_changes_111 rfl (by decide) ?_
  refine ev_getf (j := 0) (t := 2) (x := (1 : Int)) dX10_changes_112 cf_X10 wf_X10_12 sp0 (by decide) (by decide) rfl (by decide) (rp0_0 _) ?_
  refine ev_iload dX10_changes_115 rfl ?_
  refine ev_iload dX10_changes_117 rfl ?_
  obtain ⟨v15, hc16, h⟩ := bind_of h
  refine ev_invV_v (k := (1 : Int)) (av := [(0, v7), (0, v10)]) (st := []) (v := (0, v15)) (τ := v8.2) dX10_changes_119 ml_X10_193 mv_X0_mayFlip (T := TX0) (ci := 0) rfl sp1 (by decide) (by decide) rfl ⟨Nat.le_of_ble_eq_true rfl, Nat.le_of_ble_eq_true rfl⟩ (Nat.le_of_ble_eq_true rfl) (c_X0_mayFlip hB1 hc16) ?_
  refine ev_if_eq (tgt := 139) dX10_changes_122 rfl h (fun cb h => ?_) (fun cb h => ?_)
  · exact ev_sub (L2 := [(2, (0 : Int)), (0, x1), (0, x2), (0, x3), (9, 0), (9, 0)]) (e_X10_changes_139 v8.2 x1 x2 x3 h K) ⟨.inr rfl, .inr rfl, .inr rfl, .inr rfl, .inl rfl, .inl rfl, trivial⟩
  refine ev_aload_n dX10_changes_125 rfl (by decide) ?_
  refine ev_getf (j := 0) (t := 2) (x := (1 : Int)) dX10_changes_126 cf_X10 wf_X10_12 sp0 (by decide) (by decide) rfl (by decide) (rp0_0 _) ?_
  refine ev_iload dX10_changes_129 rfl ?_
  refine ev_iload dX10_changes_131 rfl ?_
  obtain ⟨σ17, hc18, h⟩ := bind_of h
  refine ev_invV_n (k := (1 : Int)) (av := [(0, v7), (0, v10)]) (st := []) (τ := σ17) dX10_changes_133 ml_X10_196 mv_X0_flip (T := TX0) (ci := 0) rfl sp1 (by decide) (by decide) rfl ⟨Nat.le_of_ble_eq_true rfl, Nat.le_of_ble_eq_true rfl⟩ (Nat.le_of_ble_eq_true rfl) (c_X0_flip hB1 hc18) ?_
  refine ev_iincG dX10_changes_136 rfl h rfl (fun v19 h => ?_)
  show Ev _ _ _ _ 139 _ _ _ [(2, (0 : Int)), (0, x1), (0, v19), (0, x3), (0, v7), (0, v10)] _
  exact ev_sub (L2 := [(2, (0 : Int)), (0, x1), (0, v19), (0, x3), (9, 0), (9, 0)]) (e_X10_changes_139 σ17 x1 v19 x3 h K) ⟨.inr rfl, .inr rfl, .inr rfl, .inr rfl, .inl rfl, .inl rfl, trivial⟩
set_option maxHeartbeats 4000000 in
set_option maxRecDepth 20000 in
theorem e_X10_changes_49 (σ : Mem) (x1 x2 x3 : Int)  {q : (Int × Mem)} (h : f_X10_changes_49 σ x1 x2 x3 = some q) : Ev M_X10_changes 210 210 (some (0, q.1), rho, q.2) 49 210 rho σ [(2, (0 : Int)), (0, x1), (0, x2), (0, x3), (9, 0), (9, 0)] [] := by
  unfold f_X10_changes_49 at h
  obtain ⟨e, hl, h⟩ := bind_of h
  refine loop_ev (K := K_X10_changes_49 x1 (some (0, q.1), rho, q.2)) (b_X10_changes_49 x1) FU (x2, x3, σ) e hl ?_
  show Ev M_X10_changes 210 210 _ 145 210 rho e.2 [(2, (0 : Int)), (9, 0), (0, e.1), (9, 0), (9, 0), (9, 0)] []
  replace h : f_X10_changes_145 e.2 e.1 = some q := h
  exact ev_sub (L2 := [(2, (0 : Int)), (9, 0), (0, e.1), (9, 0), (9, 0), (9, 0)]) (e_X10_changes_145 e.2 e.1 h) ⟨.inr rfl, .inl rfl, .inr rfl, .inl rfl, .inl rfl, .inl rfl, trivial⟩
set_option maxHeartbeats 4000000 in
set_option maxRecDepth 20000 in
theorem c_X10_changes {σ : Mem} {x1 : Int}  {q : (Int × Mem)} (h : f_X10_changes σ x1 = some q) : Ms yX10_changes M_X10_changes 210 210 [(2, (0 : Int)), (0, x1)] rho σ (some (0, q.1), rho, q.2) := by
  refine Ms.of 4 (by decide +kernel) rfl (fun z => absurd z (by decide)) (fun _ _ _ => trivial) rfl rfl ?_
  unfold f_X10_changes at h
  show Ev M_X10_changes 210 210 _ 0 210 rho σ [(2, (0 : Int)), (0, x1), (9, 0), (9, 0), (9, 0), (9, 0)] []
  refine ev_iload_n dX10_changes_0 rfl ?_
  refine ev_iconst dX10_changes_1 (by decide) ?_
  refine ev_icmp_lt (tgt := 11) dX10_changes_2 rfl h (fun cb h => ?_) (fun cb h => ?_)
  · exact ev_sub (L2 := [(2, (0 : Int)), (9, 0), (9, 0), (9, 0), (9, 0), (9, 0)]) (e_X10_changes_11 σ h) ⟨.inr rfl, .inl rfl, .inl rfl, .inl rfl, .inl rfl, .inl rfl, trivial⟩
  refine ev_iload_n dX10_changes_5 rfl ?_
  refine ev_bipush dX10_changes_6 (by decide) (by decide) ?_
  refine ev_icmp_le (tgt := 18) dX10_changes_8 rfl h (fun cb h => ?_) (fun cb h => ?_)
  · refine ev_aload_n dX10_changes_18 rfl (by decide) ?_
    refine ev_getf (j := 0) (t := 2) (x := (1 : Int)) dX10_changes_19 cf_X10 wf_X10_12 sp0 (by decide) (by decide) rfl (by decide) (rp0_0 _) ?_
    refine ev_getf (j := 9) (t := 0) (x := (σ (1 : Int) 9)) dX10_changes_22 cf_X0 wf_X10_176 sp1 (by decide) (by decide) rfl (by decide) rfl ?_
    refine ev_if_eq (tgt := 38) dX10_changes_25 rfl h (fun cb h => ?_) (fun cb h => ?_)
    · exact ev_sub (L2 := [(2, (0 : Int)), (9, 0), (9, 0), (9, 0), (9, 0), (9, 0)]) (e_X10_changes_38 σ h) ⟨.inr rfl, .inl rfl, .inl rfl, .inl rfl, .inl rfl, .inl rfl, trivial⟩
    refine ev_aload_n dX10_changes_28 rfl (by decide) ?_
    refine ev_getf (j := 0) (t := 2) (x := (1 : Int)) dX10_changes_29 cf_X10 wf_X10_12 sp0 (by decide) (by decide) rfl (by decide) (rp0_0 _) ?_
    refine ev_getf (j := 8) (t := 0) (x := (σ (1 : Int) 8)) dX10_changes_32 cf_X0 wf_X10_158 sp1 (by decide) (by decide) rfl (by decide) rfl ?_
    refine ev_if_ne (tgt := 45) dX10_changes_35 rfl h (fun cb h => ?_) (fun cb h => ?_)
    · refine ev_iconst dX10_changes_45 (by decide) ?_
      refine ev_istore_n dX10_changes_46 rfl (by decide) ?_
      show Ev _ _ _ _ 47 _ _ _ [(2, (0 : Int)), (0, x1), (0, (0 : Int)), (9, 0), (9, 0), (9, 0)] _
      refine ev_iconst dX10_changes_47 (by decide) ?_
      refine ev_istore_n dX10_changes_48 rfl (by decide) ?_
      show Ev _ _ _ _ 49 _ _ _ [(2, (0 : Int)), (0, x1), (0, (0 : Int)), (0, (0 : Int)), (9, 0), (9, 0)] _
      exact ev_sub (L2 := [(2, (0 : Int)), (0, x1), (0, (0 : Int)), (0, (0 : Int)), (9, 0), (9, 0)]) (e_X10_changes_49 σ x1 (0 : Int) (0 : Int) h) ⟨.inr rfl, .inr rfl, .inr rfl, .inr rfl, .inl rfl, .inl rfl, trivial⟩
    exact ev_sub (L2 := [(2, (0 : Int)), (9, 0), (9, 0), (9, 0), (9, 0), (9, 0)]) (e_X10_changes_38 σ h) ⟨.inr rfl, .inl rfl, .inl rfl, .inl rfl, .inl rfl, .inl rfl, trivial⟩
  exact ev_sub (L2 := [(2, (0 : Int)), (9, 0), (9, 0), (9, 0), (9, 0), (9, 0)]) (e_X10_changes_11 σ h) ⟨.inr rfl, .inl rfl, .inl rfl, .inl rfl, .inl rfl, .inl rfl, trivial⟩
set_option maxHeartbeats 4000000 in
set_option maxRecDepth 20000 in
theorem c_X10_seed {σ : Mem} {x1 : Int}  {q : (Int × Mem)} (h : f_X10_seed σ x1 = some q) : Ms yX10_seed M_X10_seed 210 210 [(2, (0 : Int)), (0, x1)] rho σ (some (0, q.1), rho, q.2) := by
  refine Ms.of 1 (by decide +kernel) rfl (fun z => absurd z (by decide)) (fun _ _ _ => trivial) rfl rfl ?_
  unfold f_X10_seed at h
  show Ev M_X10_seed 210 210 _ 0 210 rho σ [(2, (0 : Int)), (0, x1), (9, 0)] []
  refine ev_aload_n dX10_seed_0 rfl (by decide) ?_
  refine ev_getf (j := 0) (t := 2) (x := (1 : Int)) dX10_seed_1 cf_X10 wf_X10_12 sp0 (by decide) (by decide) rfl (by decide) (rp0_0 _) ?_
  refine ev_getf (j := 13) (t := 0) (x := (σ (1 : Int) 13)) dX10_seed_4 cf_X0 wf_X10_399 sp1 (by decide) (by decide) rfl (by decide) rfl ?_
  refine ev_istore_nG dX10_seed_7 h rfl (by decide) (fun v1 h => ?_)
  show Ev _ _ _ _ 8 _ _ _ [(2, (0 : Int)), (0, x1), (0, v1)] _
  refine ev_aload_n dX10_seed_8 rfl (by decide) ?_
  refine ev_getf (j := 0) (t := 2) (x := (1 : Int)) dX10_seed_9 cf_X10 wf_X10_12 sp0 (by decide) (by decide) rfl (by decide) (rp0_0 _) ?_
  refine ev_iload_n dX10_seed_12 rfl ?_
  refine ev_putfG (j := 13) (t := 0) dX10_seed_13 cf_X0 wf_X10_399 sp1 (by decide) (by decide) rfl (by decide) (by decide) rfl (fun z => absurd z (by decide +kernel)) h (fun σ2 h => ?_)
  refine ev_iload_n dX10_seed_16 rfl ?_
  obtain rfl := Option.some.inj h
  dsimp only
  exact ev_iret dX10_seed_17 rfl rfl
set_option maxHeartbeats 4000000 in
set_option maxRecDepth 20000 in
theorem c_X10_image {σ : Mem}  {q : (Int × Mem)} (h : f_X10_image σ  = some q) : Ms yX10_image M_X10_image 210 210 [(2, (0 : Int))] rho σ (some (0, q.1), rho, q.2) := by
  refine Ms.of 0 (by decide +kernel) rfl (fun z => absurd z (by decide)) (fun _ _ _ => trivial) rfl rfl ?_
  unfold f_X10_image at h
  show Ev M_X10_image 210 210 _ 0 210 rho σ [(2, (0 : Int))] []
  refine ev_aload_n dX10_image_0 rfl (by decide) ?_
  refine ev_getf (j := 2) (t := 2) (x := (19 : Int)) dX10_image_1 cf_X10 wf_X10_19 sp0 (by decide) (by decide) rfl (by decide) (rp0_2 _) ?_
  refine ev_aload_n dX10_image_4 rfl (by decide) ?_
  refine ev_getf (j := 0) (t := 2) (x := (1 : Int)) dX10_image_5 cf_X10 wf_X10_12 sp0 (by decide) (by decide) rfl (by decide) (rp0_0 _) ?_
  obtain ⟨σ1, hc2, h⟩ := bind_of h
  refine ev_invV_n (k := (19 : Int)) (av := [(2, (1 : Int))]) (st := []) (τ := σ1) dX10_image_8 ml_X10_228 mv_X0_become (T := TX0) (ci := 0) rfl sp19 (by decide) (by decide) rfl ⟨Nat.le_of_ble_eq_true rfl, Nat.le_of_ble_eq_true rfl⟩ (Nat.le_of_ble_eq_true rfl) (c_X0_become hB19 hB1 hc2) ?_
  refine ev_aload_n dX10_image_11 rfl (by decide) ?_
  refine ev_iconst dX10_image_12 (by decide) ?_
  refine ev_putfG (j := 3) (t := 0) dX10_image_13 cf_X10 wf_X10_402 sp0 (by decide) (by decide) rfl (by decide) (by decide) rfl (fun _ => .inr rfl) h (fun σ3 h => ?_)
  refine ev_iconst dX10_image_16 (by decide) ?_
  obtain rfl := Option.some.inj h
  dsimp only
  exact ev_iret dX10_image_17 rfl rfl
set_option maxHeartbeats 4000000 in
set_option maxRecDepth 20000 in
theorem c_X10_back {σ : Mem}  {q : (Int × Mem)} (h : f_X10_back σ  = some q) : Ms yX10_back M_X10_back 210 210 [(2, (0 : Int))] rho σ (some (0, q.1), rho, q.2) := by
  refine Ms.of 0 (by decide +kernel) rfl (fun z => absurd z (by decide)) (fun _ _ _ => trivial) rfl rfl ?_
  unfold f_X10_back at h
  show Ev M_X10_back 210 210 _ 0 210 rho σ [(2, (0 : Int))] []
  refine ev_aload_n dX10_back_0 rfl (by decide) ?_
  refine ev_getf (j := 3) (t := 0) (x := (σ (0 : Int) 3)) dX10_back_1 cf_X10 wf_X10_402 sp0 (by decide) (by decide) rfl (by decide) rfl ?_
  refine ev_if_ne (tgt := 14) dX10_back_4 rfl h (fun cb h => ?_) (fun cb h => ?_)
  · refine ev_aload_n dX10_back_14 rfl (by decide) ?_
    refine ev_getf (j := 0) (t := 2) (x := (1 : Int)) dX10_back_15 cf_X10 wf_X10_12 sp0 (by decide) (by decide) rfl (by decide) (rp0_0 _) ?_
    refine ev_aload_n dX10_back_18 rfl (by decide) ?_
    refine ev_getf (j := 2) (t := 2) (x := (19 : Int)) dX10_back_19 cf_X10 wf_X10_19 sp0 (by decide) (by decide) rfl (by decide) (rp0_2 _) ?_
    obtain ⟨σ1, hc2, h⟩ := bind_of h
    refine ev_invV_n (k := (1 : Int)) (av := [(2, (19 : Int))]) (st := []) (τ := σ1) dX10_back_22 ml_X10_228 mv_X0_become (T := TX0) (ci := 0) rfl sp1 (by decide) (by decide) rfl ⟨Nat.le_of_ble_eq_true rfl, Nat.le_of_ble_eq_true rfl⟩ (Nat.le_of_ble_eq_true rfl) (c_X0_become hB1 hB19 hc2) ?_
    refine ev_aload_n dX10_back_25 rfl (by decide) ?_
    refine ev_getf (j := 5) (t := 2) (x := (30 : Int)) dX10_back_26 cf_X10 wf_X10_32 sp0 (by decide) (by decide) rfl (by decide) (rp0_5 _) ?_
    refine ev_aload_n dX10_back_29 rfl (by decide) ?_
    refine ev_getf (j := 0) (t := 2) (x := (1 : Int)) dX10_back_30 cf_X10 wf_X10_12 sp0 (by decide) (by decide) rfl (by decide) (rp0_0 _) ?_
    refine ev_getf (j := 9) (t := 0) (x := (σ1 (1 : Int) 9)) dX10_back_33 cf_X0 wf_X10_176 sp1 (by decide) (by decide) rfl (by decide) rfl ?_
    obtain ⟨σ3, hc4, h⟩ := bind_of h
    refine ev_invV_n (k := (30 : Int)) (av := [(0, (σ1 (1 : Int) 9))]) (st := []) (τ := σ3) dX10_back_36 ml_X10_406 mv_X6_dropCandsFrom (T := TX6) (ci := 5) rfl sp30 (by decide) (by decide) rfl ⟨Nat.le_of_ble_eq_true rfl, Nat.le_of_ble_eq_true rfl⟩ (Nat.le_of_ble_eq_true rfl) (c_X6_dropCandsFrom hc4) ?_
    show Ev _ _ _ _ 39 _ _ _ _ _
    refine ev_aload_n dX10_back_39 rfl (by decide) ?_
    refine ev_getf (j := 8) (t := 2) (x := (43 : Int)) dX10_back_40 cf_X10 wf_X10_52 sp0 (by decide) (by decide) rfl (by decide) (rp0_8 _) ?_
    obtain ⟨σ5, hc6, h⟩ := bind_of h
    refine ev_invV_n (k := (43 : Int)) (av := []) (st := []) (τ := σ5) dX10_back_43 ml_X10_173 mv_X9_forgetAll (T := TX9) (ci := 8) rfl sp43 (by decide) (by decide) rfl ⟨Nat.le_of_ble_eq_true rfl, Nat.le_of_ble_eq_true rfl⟩ (Nat.le_of_ble_eq_true rfl) (c_X9_forgetAll hc6) ?_
    refine ev_iconst dX10_back_46 (by decide) ?_
    obtain rfl := Option.some.inj h
    dsimp only
    exact ev_iret dX10_back_47 rfl rfl
  refine ev_aload_n dX10_back_7 rfl (by decide) ?_
  refine ev_bipush dX10_back_8 (by decide) (by decide) ?_
  obtain ⟨v7, hc8, h⟩ := bind_of h
  refine ev_invV_v (k := (0 : Int)) (av := [(0, (-55 : Int))]) (st := []) (v := (0, v7.1)) (τ := v7.2) dX10_back_10 ml_X10_90 mv_X10_refuse (T := TX10) (ci := 9) rfl sp0 (by decide) (by decide) rfl ⟨Nat.le_of_ble_eq_true rfl, Nat.le_of_ble_eq_true rfl⟩ (Nat.le_of_ble_eq_true rfl) (c_X10_refuse hc8) ?_
  obtain rfl := Option.some.inj h
  dsimp only
  exact ev_iret dX10_back_13 rfl rfl
def K_X10_daysSomebodyCant_14 (x1 x2 : Int) (r : Option V × Mem × Mem) : (Int × Int × Mem) ⊕ ((Int × Mem)) → Prop := Sum.elim (fun a => Ev M_X10_daysSomebodyCant 210 210 r 14 210 rho a.2.2 [(2, (0 : Int)), (0, x1), (0, x2), (0, a.1), (0, a.2.1)] []) (fun e => Ev M_X10_daysSomebodyCant 210 210 r 59 210 rho e.2 [(2, (0 : Int)), (0, x1), (0, x2), (0, e.1), (9, 0)] [])
def K_X10_daysSomebodyCant_4 (r : Option V × Mem × Mem) : (Int × Int × Mem) ⊕ ((Int × Mem)) → Prop := Sum.elim (fun a => Ev M_X10_daysSomebodyCant 210 210 r 4 210 rho a.2.2 [(2, (0 : Int)), (0, a.1), (0, a.2.1), (9, 0), (9, 0)] []) (fun e => Ev M_X10_daysSomebodyCant 210 210 r 72 210 rho e.2 [(9, 0), (0, e.1), (9, 0), (9, 0), (9, 0)] [])
set_option maxHeartbeats 4000000 in
set_option maxRecDepth 20000 in
theorem e_X10_daysSomebodyCant_52 (σ : Mem) (x1 x2 x4 s0 : Int)  {q : ((Int × Int × Mem) ⊕ ((Int × Mem)))} (h : f_X10_daysSomebodyCant_52 σ x1 x2 x4 s0 = some q) {r : Option V × Mem × Mem} (K : K_X10_daysSomebodyCant_14 x1 x2 r q) : Ev M_X10_daysSomebodyCant 210 210 r 52 210 rho σ [(2, (0 : Int)), (0, x1), (0, x2), (9, 0), (0, x4)] [(0, s0)] := by
  unfold f_X10_daysSomebodyCant_52 at h
  refine ev_istore_n dX10_daysSomebodyCant_52 rfl (by decide) ?_
  show Ev _ _ _ _ 53 _ _ _ [(2, (0 : Int)), (0, x1), (0, x2), (0, s0), (0, x4)] _
  refine ev_iincG dX10_daysSomebodyCant_53 rfl h rfl (fun v4 h => ?_)
  show Ev _ _ _ _ 56 _ _ _ [(2, (0 : Int)), (0, x1), (0, x2), (0, s0), (0, v4)] _
  refine ev_goto (tgt := 14) dX10_daysSomebodyCant_56 rfl ?_
  obtain rfl := Option.some.inj h
  exact ev_sub (L2 := [(2, (0 : Int)), (0, x1), (0, x2), (0, s0), (0, v4)]) K ⟨.inr rfl, .inr rfl, .inr rfl, .inr rfl, .inr rfl, trivial⟩
set_option maxHeartbeats 4000000 in
set_option maxRecDepth 20000 in
theorem e_X10_daysSomebodyCant_66 (σ : Mem) (x1 x2 : Int)  {q : ((Int × Int × Mem) ⊕ ((Int × Mem)))} (h : f_X10_daysSomebodyCant_66 σ x1 x2 = some q) {r : Option V × Mem × Mem} (K : K_X10_daysSomebodyCant_4  r q) : Ev M_X10_daysSomebodyCant 210 210 r 66 210 rho σ [(2, (0 : Int)), (0, x1), (0, x2), (9, 0), (9, 0)] [] := by
  unfold f_X10_daysSomebodyCant_66 at h
  refine ev_iincG dX10_daysSomebodyCant_66 rfl h rfl (fun v6 h => ?_)
  show Ev _ _ _ _ 69 _ _ _ [(2, (0 : Int)), (0, x1), (0, v6), (9, 0), (9, 0)] _
  refine ev_goto (tgt := 4) dX10_daysSomebodyCant_69 rfl ?_
  obtain rfl := Option.some.inj h
  exact ev_sub (L2 := [(2, (0 : Int)), (0, x1), (0, v6), (9, 0), (9, 0)]) K ⟨.inr rfl, .inr rfl, .inr rfl, .inl rfl, .inl rfl, trivial⟩
set_option maxHeartbeats 4000000 in
set_option maxRecDepth 20000 in
theorem e_X10_daysSomebodyCant_59 (σ : Mem) (x1 x2 x3 : Int)  {q : ((Int × Int × Mem) ⊕ ((Int × Mem)))} (h : f_X10_daysSomebodyCant_59 σ x1 x2 x3 = some q) {r : Option V × Mem × Mem} (K : K_X10_daysSomebodyCant_4  r q) : Ev M_X10_daysSomebodyCant 210 210 r 59 210 rho σ [(2, (0 : Int)), (0, x1), (0, x2), (0, x3), (9, 0)] [] := by
  unfold f_X10_daysSomebodyCant_59 at h
  refine ev_iload_n dX10_daysSomebodyCant_59 rfl ?_
  refine ev_if_eq (tgt := 66) dX10_daysSomebodyCant_60 rfl h (fun cb h => ?_) (fun cb h => ?_)
  · exact ev_sub (L2 := [(2, (0 : Int)), (0, x1), (0, x2), (9, 0), (9, 0)]) (e_X10_daysSomebodyCant_66 σ x1 x2 h K) ⟨.inr rfl, .inr rfl, .inr rfl, .inl rfl, .inl rfl, trivial⟩
  refine ev_iincG dX10_daysSomebodyCant_63 rfl h rfl (fun v5 h => ?_)
  show Ev _ _ _ _ 66 _ _ _ [(2, (0 : Int)), (0, v5), (0, x2), (0, x3), (9, 0)] _
  exact ev_sub (L2 := [(2, (0 : Int)), (0, v5), (0, x2), (9, 0), (9, 0)]) (e_X10_daysSomebodyCant_66 σ v5 x2 h K) ⟨.inr rfl, .inr rfl, .inr rfl, .inl rfl, .inl rfl, trivial⟩
set_option maxHeartbeats 4000000 in
set_option maxRecDepth 20000 in
theorem b_X10_daysSomebodyCant_14 (x1 x2 : Int)  {r : Option V × Mem × Mem} : ∀ a x, f_X10_daysSomebodyCant_14B x1 x2 a = some x → K_X10_daysSomebodyCant_14 x1 x2 r x → K_X10_daysSomebodyCant_14 x1 x2 r (.inl a) := by
  intro a x h K
  obtain ⟨x3, x4, σ⟩ := a
  have h : f_X10_daysSomebodyCant_14C x1 x2 x3 x4 σ = some x := h
  unfold f_X10_daysSomebodyCant_14C at h
  show Ev M_X10_daysSomebodyCant 210 210 r 14 210 rho σ [(2, (0 : Int)), (0, x1), (0, x2), (0, x3), (0, x4)] []
  refine ev_iload dX10_daysSomebodyCant_14 rfl ?_
  refine ev_aload_n dX10_daysSomebodyCant_16 rfl (by decide) ?_
  refine ev_getf (j := 0) (t := 2) (x := (1 : Int)) dX10_daysSomebodyCant_17 cf_X10 wf_X10_12 sp0 (by decide) (by decide) rfl (by decide) (rp0_0 _) ?_
  refine ev_getf (j := 9) (t := 0) (x := (σ (1 : Int) 9)) dX10_daysSomebodyCant_20 cf_X0 wf_X10_176 sp1 (by decide) (by decide) rfl (by decide) rfl ?_
  refine ev_icmp_ge (tgt := 59) dX10_daysSomebodyCant_23 rfl h (fun cb h => ?_) (fun cb h => ?_)
  · obtain rfl := Option.some.inj h
    exact ev_sub (L2 := [(2, (0 : Int)), (0, x1), (0, x2), (0, x3), (9, 0)]) K ⟨.inr rfl, .inr rfl, .inr rfl, .inr rfl, .inl rfl, trivial⟩
  refine ev_iload_n dX10_daysSomebodyCant_26 rfl ?_
  refine ev_if_ne (tgt := 59) dX10_daysSomebodyCant_27 rfl h (fun cb h => ?_) (fun cb h => ?_)
  · obtain rfl := Option.some.inj h
    exact ev_sub (L2 := [(2, (0 : Int)), (0, x1), (0, x2), (0, x3), (9, 0)]) K ⟨.inr rfl, .inr rfl, .inr rfl, .inr rfl, .inl rfl, trivial⟩
  refine ev_aload_n dX10_daysSomebodyCant_30 rfl (by decide) ?_
  refine ev_getf (j := 8) (t := 2) (x := (43 : Int)) dX10_daysSomebodyCant_31 cf_X10 wf_X10_52 sp0 (by decide) (by decide) rfl (by decide) (rp0_8 _) ?_
  refine ev_iload dX10_daysSomebodyCant_34 rfl ?_
  obtain ⟨v1, hc2, h⟩ := bind_of h
  refine ev_invV_v (k := (43 : Int)) (av := [(0, x4)]) (st := []) (v := (2, v1.1)) (τ := v1.2) dX10_daysSomebodyCant_36 ml_X10_245 mv_X9_of (T := TX9) (ci := 8) rfl sp43 (by decide) (by decide) rfl ⟨Nat.le_of_ble_eq_true rfl, Nat.le_of_ble_eq_true rfl⟩ (Nat.le_of_ble_eq_true rfl) (c_X9_of hc2) ?_
  have hw3 := w_X9_of hc2
  refine ev_getf (j := 0) (t := 2) (x := (v1.1 + 1)) dX10_daysSomebodyCant_39 cf_X8 wf_X10_267 (sW hw3) (pW hw3).1 (pW hw3).2 rfl (by decide) (rW0 _ hw3) ?_
  refine ev_iload_n dX10_daysSomebodyCant_42 rfl ?_
  refine ev_zald dX10_daysSomebodyCant_43 (sW0 hw3) (pW0 hw3).1 (pW0 hw3).2 h (fun h => ?_)
  refine ev_if_ne (tgt := 51) dX10_daysSomebodyCant_44 rfl h (fun cb h => ?_) (fun cb h => ?_)
  · refine ev_iconst dX10_daysSomebodyCant_51 (by decide) ?_
    exact ev_sub (L2 := [(2, (0 : Int)), (0, x1), (0, x2), (9, 0), (0, x4)]) (e_X10_daysSomebodyCant_52 v1.2 x1 x2 x4 (0 : Int) h K) ⟨.inr rfl, .inr rfl, .inr rfl, .inl rfl, .inr rfl, trivial⟩
  refine ev_iconst dX10_daysSomebodyCant_47 (by decide) ?_
  refine ev_goto (tgt := 52) dX10_daysSomebodyCant_48 rfl ?_
  exact ev_sub (L2 := [(2, (0 : Int)), (0, x1), (0, x2), (9, 0), (0, x4)]) (e_X10_daysSomebodyCant_52 v1.2 x1 x2 x4 (1 : Int) h K) ⟨.inr rfl, .inr rfl, .inr rfl, .inl rfl, .inr rfl, trivial⟩
set_option maxHeartbeats 4000000 in
set_option maxRecDepth 20000 in
theorem e_X10_daysSomebodyCant_14 (σ : Mem) (x1 x2 x3 x4 : Int)  {q : ((Int × Int × Mem) ⊕ ((Int × Mem)))} (h : f_X10_daysSomebodyCant_14 σ x1 x2 x3 x4 = some q) {r : Option V × Mem × Mem} (K : K_X10_daysSomebodyCant_4  r q) : Ev M_X10_daysSomebodyCant 210 210 r 14 210 rho σ [(2, (0 : Int)), (0, x1), (0, x2), (0, x3), (0, x4)] [] := by
  unfold f_X10_daysSomebodyCant_14 at h
  obtain ⟨e, hl, h⟩ := bind_of h
  refine loop_ev (K := K_X10_daysSomebodyCant_14 x1 x2 r) (b_X10_daysSomebodyCant_14 x1 x2) FU (x3, x4, σ) e hl ?_
  show Ev M_X10_daysSomebodyCant 210 210 r 59 210 rho e.2 [(2, (0 : Int)), (0, x1), (0, x2), (0, e.1), (9, 0)] []
  replace h : f_X10_daysSomebodyCant_59 e.2 x1 x2 e.1 = some q := h
  exact ev_sub (L2 := [(2, (0 : Int)), (0, x1), (0, x2), (0, e.1), (9, 0)]) (e_X10_daysSomebodyCant_59 e.2 x1 x2 e.1 h K) ⟨.inr rfl, .inr rfl, .inr rfl, .inr rfl, .inl rfl, trivial⟩
set_option maxHeartbeats 4000000 in
set_option maxRecDepth 20000 in
theorem b_X10_daysSomebodyCant_4  {r : Option V × Mem × Mem} : ∀ a x, f_X10_daysSomebodyCant_4B  a = some x → K_X10_daysSomebodyCant_4  r x → K_X10_daysSomebodyCant_4  r (.inl a) := by
  intro a x h K
  obtain ⟨x1, x2, σ⟩ := a
  have h : f_X10_daysSomebodyCant_4C  x1 x2 σ = some x := h
  unfold f_X10_daysSomebodyCant_4C at h
  show Ev M_X10_daysSomebodyCant 210 210 r 4 210 rho σ [(2, (0 : Int)), (0, x1), (0, x2), (9, 0), (9, 0)] []
  refine ev_iload_n dX10_daysSomebodyCant_4 rfl ?_
  refine ev_iconst dX10_daysSomebodyCant_5 (by decide) ?_
  refine ev_icmp_ge (tgt := 72) dX10_daysSomebodyCant_6 rfl h (fun cb h => ?_) (fun cb h => ?_)
  · obtain rfl := Option.some.inj h
    exact ev_sub (L2 := [(9, 0), (0, x1), (9, 0), (9, 0), (9, 0)]) K ⟨.inl rfl, .inr rfl, .inl rfl, .inl rfl, .inl rfl, trivial⟩
  refine ev_iconst dX10_daysSomebodyCant_9 (by decide) ?_
  refine ev_istore_n dX10_daysSomebodyCant_10 rfl (by decide) ?_
  show Ev _ _ _ _ 11 _ _ _ [(2, (0 : Int)), (0, x1), (0, x2), (0, (0 : Int)), (9, 0)] _
  refine ev_iconst dX10_daysSomebodyCant_11 (by decide) ?_
  refine ev_istore dX10_daysSomebodyCant_12 rfl (by decide) ?_
  show Ev _ _ _ _ 14 _ _ _ [(2, (0 : Int)), (0, x1), (0, x2), (0, (0 : Int)), (0, (0 : Int))] _
  exact ev_sub (L2 := [(2, (0 : Int)), (0, x1), (0, x2), (0, (0 : Int)), (0, (0 : Int))]) (e_X10_daysSomebodyCant_14 σ x1 x2 (0 : Int) (0 : Int) h K) ⟨.inr rfl, .inr rfl, .inr rfl, .inr rfl, .inr rfl, trivial⟩
set_option maxHeartbeats 4000000 in
set_option maxRecDepth 20000 in
theorem e_X10_daysSomebodyCant_4 (σ : Mem) (x1 x2 : Int)  {q : (Int × Mem)} (h : f_X10_daysSomebodyCant_4 σ x1 x2 = some q) : Ev M_X10_daysSomebodyCant 210 210 (some (0, q.1), rho, q.2) 4 210 rho σ [(2, (0 : Int)), (0, x1), (0, x2), (9, 0), (9, 0)] [] := by
  unfold f_X10_daysSomebodyCant_4 at h
  obtain ⟨e, hl, h⟩ := bind_of h
  refine loop_ev (K := K_X10_daysSomebodyCant_4  (some (0, q.1), rho, q.2)) (b_X10_daysSomebodyCant_4 ) FU (x1, x2, σ) e hl ?_
  show Ev M_X10_daysSomebodyCant 210 210 _ 72 210 rho e.2 [(9, 0), (0, e.1), (9, 0), (9, 0), (9, 0)] []
  replace h : some (e.1, e.2) = some q := h
  refine ev_iload_n dX10_daysSomebodyCant_72 rfl ?_
  obtain rfl := Option.some.inj h
  dsimp only
  exact ev_iret dX10_daysSomebodyCant_73 rfl rfl
set_option maxHeartbeats 4000000 in
set_option maxRecDepth 20000 in
theorem c_X10_daysSomebodyCant {σ : Mem}  {q : (Int × Mem)} (h : f_X10_daysSomebodyCant σ  = some q) : Ms yX10_daysSomebodyCant M_X10_daysSomebodyCant 210 210 [(2, (0 : Int))] rho σ (some (0, q.1), rho, q.2) := by
  refine Ms.of 4 (by decide +kernel) rfl (fun z => absurd z (by decide)) (fun _ _ _ => trivial) rfl rfl ?_
  unfold f_X10_daysSomebodyCant at h
  show Ev M_X10_daysSomebodyCant 210 210 _ 0 210 rho σ [(2, (0 : Int)), (9, 0), (9, 0), (9, 0), (9, 0)] []
  refine ev_iconst dX10_daysSomebodyCant_0 (by decide) ?_
  refine ev_istore_n dX10_daysSomebodyCant_1 rfl (by decide) ?_
  show Ev _ _ _ _ 2 _ _ _ [(2, (0 : Int)), (0, (0 : Int)), (9, 0), (9, 0), (9, 0)] _
  refine ev_iconst dX10_daysSomebodyCant_2 (by decide) ?_
  refine ev_istore_n dX10_daysSomebodyCant_3 rfl (by decide) ?_
  show Ev _ _ _ _ 4 _ _ _ [(2, (0 : Int)), (0, (0 : Int)), (0, (0 : Int)), (9, 0), (9, 0)] _
  exact ev_sub (L2 := [(2, (0 : Int)), (0, (0 : Int)), (0, (0 : Int)), (9, 0), (9, 0)]) (e_X10_daysSomebodyCant_4 σ (0 : Int) (0 : Int) h) ⟨.inr rfl, .inr rfl, .inr rfl, .inl rfl, .inl rfl, trivial⟩
set_option maxHeartbeats 4000000 in
set_option maxRecDepth 20000 in
theorem e_X10_status_22 (σ : Mem) (x1 : Int)  {q : (Int × Mem)} (h : f_X10_status_22 σ x1 = some q) : Ev M_X10_status 210 210 (some (0, q.1), rho, q.2) 22 210 rho σ [(2, (0 : Int)), (0, x1)] [] := by
  unfold f_X10_status_22 at h
  refine ev_iload_n dX10_status_22 rfl ?_
  refine ev_by h (fun cs h => ?_) (fun cs0 h => ?_)
  · refine ev_tswIn (off := 53) (tgt := 76) dX10_status_23 (by rw [cs]; decide) (by rw [cs]; decide) (by rw [cs]; rfl) rfl ?_
    refine ev_aload_n dX10_status_76 rfl (by decide) ?_
    refine ev_getf (j := 0) (t := 2) (x := (1 : Int)) dX10_status_77 cf_X10 wf_X10_12 sp0 (by decide) (by decide) rfl (by decide) (rp0_0 _) ?_
    refine ev_getf (j := 8) (t := 0) (x := (σ (1 : Int) 8)) dX10_status_80 cf_X0 wf_X10_158 sp1 (by decide) (by decide) rfl (by decide) rfl ?_
    obtain rfl := Option.some.inj h
    dsimp only
    exact ev_iret dX10_status_83 rfl rfl
  refine ev_by h (fun cs h => ?_) (fun cs1 h => ?_)
  · refine ev_tswIn (off := 61) (tgt := 84) dX10_status_23 (by rw [cs]; decide) (by rw [cs]; decide) (by rw [cs]; rfl) rfl ?_
    refine ev_aload_n dX10_status_84 rfl (by decide) ?_
    refine ev_getf (j := 0) (t := 2) (x := (1 : Int)) dX10_status_85 cf_X10 wf_X10_12 sp0 (by decide) (by decide) rfl (by decide) (rp0_0 _) ?_
    refine ev_getf (j := 9) (t := 0) (x := (σ (1 : Int) 9)) dX10_status_88 cf_X0 wf_X10_176 sp1 (by decide) (by decide) rfl (by decide) rfl ?_
    obtain rfl := Option.some.inj h
    dsimp only
    exact ev_iret dX10_status_91 rfl rfl
  refine ev_by h (fun cs h => ?_) (fun cs2 h => ?_)
  · refine ev_tswIn (off := 69) (tgt := 92) dX10_status_23 (by rw [cs]; decide) (by rw [cs]; decide) (by rw [cs]; rfl) rfl ?_
    refine ev_aload_n dX10_status_92 rfl (by decide) ?_
    refine ev_getf (j := 0) (t := 2) (x := (1 : Int)) dX10_status_93 cf_X10 wf_X10_12 sp0 (by decide) (by decide) rfl (by decide) (rp0_0 _) ?_
    refine ev_getf (j := 10) (t := 0) (x := (σ (1 : Int) 10)) dX10_status_96 cf_X0 wf_X10_202 sp1 (by decide) (by decide) rfl (by decide) rfl ?_
    obtain rfl := Option.some.inj h
    dsimp only
    exact ev_iret dX10_status_99 rfl rfl
  refine ev_by h (fun cs h => ?_) (fun cs3 h => ?_)
  · refine ev_tswIn (off := 77) (tgt := 100) dX10_status_23 (by rw [cs]; decide) (by rw [cs]; decide) (by rw [cs]; rfl) rfl ?_
    refine ev_aload_n dX10_status_100 rfl (by decide) ?_
    refine ev_getf (j := 0) (t := 2) (x := (1 : Int)) dX10_status_101 cf_X10 wf_X10_12 sp0 (by decide) (by decide) rfl (by decide) (rp0_0 _) ?_
    refine ev_getf (j := 11) (t := 0) (x := (σ (1 : Int) 11)) dX10_status_104 cf_X0 wf_X10_211 sp1 (by decide) (by decide) rfl (by decide) rfl ?_
    obtain rfl := Option.some.inj h
    dsimp only
    exact ev_iret dX10_status_107 rfl rfl
  refine ev_by h (fun cs h => ?_) (fun cs4 h => ?_)
  · refine ev_tswIn (off := 85) (tgt := 108) dX10_status_23 (by rw [cs]; decide) (by rw [cs]; decide) (by rw [cs]; rfl) rfl ?_
    refine ev_aload_n dX10_status_108 rfl (by decide) ?_
    refine ev_getf (j := 0) (t := 2) (x := (1 : Int)) dX10_status_109 cf_X10 wf_X10_12 sp0 (by decide) (by decide) rfl (by decide) (rp0_0 _) ?_
    refine ev_getf (j := 12) (t := 0) (x := (σ (1 : Int) 12)) dX10_status_112 cf_X0 wf_X10_214 sp1 (by decide) (by decide) rfl (by decide) rfl ?_
    obtain rfl := Option.some.inj h
    dsimp only
    exact ev_iret dX10_status_115 rfl rfl
  refine ev_by h (fun cs h => ?_) (fun cs5 h => ?_)
  · refine ev_tswIn (off := 93) (tgt := 116) dX10_status_23 (by rw [cs]; decide) (by rw [cs]; decide) (by rw [cs]; rfl) rfl ?_
    refine ev_aload_n dX10_status_116 rfl (by decide) ?_
    refine ev_getf (j := 0) (t := 2) (x := (1 : Int)) dX10_status_117 cf_X10 wf_X10_12 sp0 (by decide) (by decide) rfl (by decide) (rp0_0 _) ?_
    obtain ⟨v1, hc2, h⟩ := bind_of h
    refine ev_invV_v (k := (1 : Int)) (av := []) (st := []) (v := (0, v1)) (τ := σ) dX10_status_120 ml_X10_409 mv_X0_takenInAll (T := TX0) (ci := 0) rfl sp1 (by decide) (by decide) rfl ⟨Nat.le_of_ble_eq_true rfl, Nat.le_of_ble_eq_true rfl⟩ (Nat.le_of_ble_eq_true rfl) (c_X0_takenInAll hB1 hc2) ?_
    obtain rfl := Option.some.inj h
    dsimp only
    exact ev_iret dX10_status_123 rfl rfl
  refine ev_by h (fun cs h => ?_) (fun cs6 h => ?_)
  · refine ev_tswIn (off := 101) (tgt := 124) dX10_status_23 (by rw [cs]; decide) (by rw [cs]; decide) (by rw [cs]; rfl) rfl ?_
    refine ev_aload_n dX10_status_124 rfl (by decide) ?_
    obtain ⟨v3, hc4, h⟩ := bind_of h
    refine ev_invV_v (k := (0 : Int)) (av := []) (st := []) (v := (0, v3.1)) (τ := v3.2) dX10_status_125 ml_X10_412 mv_X10_daysSomebodyCant (T := TX10) (ci := 9) rfl sp0 (by decide) (by decide) rfl ⟨Nat.le_of_ble_eq_true rfl, Nat.le_of_ble_eq_true rfl⟩ (Nat.le_of_ble_eq_true rfl) (c_X10_daysSomebodyCant hc4) ?_
    obtain rfl := Option.some.inj h
    dsimp only
    exact ev_iret dX10_status_128 rfl rfl
  refine ev_by h (fun cs h => ?_) (fun cs7 h => ?_)
  · refine ev_tswIn (off := 106) (tgt := 129) dX10_status_23 (by rw [cs]; decide) (by rw [cs]; decide) (by rw [cs]; rfl) rfl ?_
    refine ev_aload_n dX10_status_129 rfl (by decide) ?_
    refine ev_getf (j := 4) (t := 2) (x := (28 : Int)) dX10_status_130 cf_X10 wf_X10_25 sp0 (by decide) (by decide) rfl (by decide) (rp0_4 _) ?_
    obtain ⟨v5, hc6, h⟩ := bind_of h
    refine ev_invV_v (k := (28 : Int)) (av := []) (st := []) (v := (0, v5)) (τ := σ) dX10_status_133 ml_X10_415 mv_X7_size (T := TX7) (ci := 6) rfl sp28 (by decide) (by decide) rfl ⟨Nat.le_of_ble_eq_true rfl, Nat.le_of_ble_eq_true rfl⟩ (Nat.le_of_ble_eq_true rfl) (c_X7_size hc6) ?_
    obtain rfl := Option.some.inj h
    dsimp only
    exact ev_iret dX10_status_136 rfl rfl
  refine ev_by h (fun cs h => ?_) (fun cs8 h => ?_)
  · refine ev_tswIn (off := 114) (tgt := 137) dX10_status_23 (by rw [cs]; decide) (by rw [cs]; decide) (by rw [cs]; rfl) rfl ?_
    refine ev_aload_n dX10_status_137 rfl (by decide) ?_
    refine ev_getf (j := 0) (t := 2) (x := (1 : Int)) dX10_status_138 cf_X10 wf_X10_12 sp0 (by decide) (by decide) rfl (by decide) (rp0_0 _) ?_
    refine ev_getf (j := 13) (t := 0) (x := (σ (1 : Int) 13)) dX10_status_141 cf_X0 wf_X10_399 sp1 (by decide) (by decide) rfl (by decide) rfl ?_
    obtain rfl := Option.some.inj h
    dsimp only
    exact ev_iret dX10_status_144 rfl rfl
  refine ev_by h (fun cs h => ?_) (fun cs9 h => ?_)
  · refine ev_tswIn (off := 122) (tgt := 145) dX10_status_23 (by rw [cs]; decide) (by rw [cs]; decide) (by rw [cs]; rfl) rfl ?_
    refine ev_aload_n dX10_status_145 rfl (by decide) ?_
    refine ev_getf (j := 5) (t := 2) (x := (30 : Int)) dX10_status_146 cf_X10 wf_X10_32 sp0 (by decide) (by decide) rfl (by decide) (rp0_5 _) ?_
    obtain ⟨v7, hc8, h⟩ := bind_of h
    refine ev_invV_v (k := (30 : Int)) (av := []) (st := []) (v := (0, v7)) (τ := σ) dX10_status_149 ml_X10_418 mv_X6_filled (T := TX6) (ci := 5) rfl sp30 (by decide) (by decide) rfl ⟨Nat.le_of_ble_eq_true rfl, Nat.le_of_ble_eq_true rfl⟩ (Nat.le_of_ble_eq_true rfl) (c_X6_filled hc8) ?_
    obtain rfl := Option.some.inj h
    dsimp only
    exact ev_iret dX10_status_152 rfl rfl
  refine ev_tswOut (tgt := 153) dX10_status_23 (by omega) rfl ?_
  refine ev_iconst dX10_status_153 (by decide) ?_
  obtain rfl := Option.some.inj h
  dsimp only
  exact ev_iret dX10_status_154 rfl rfl
set_option maxHeartbeats 4000000 in
set_option maxRecDepth 20000 in
theorem c_X10_status {σ : Mem} {x1 : Int}  {q : (Int × Mem)} (h : f_X10_status σ x1 = some q) : Ms yX10_status M_X10_status 210 210 [(2, (0 : Int)), (0, x1)] rho σ (some (0, q.1), rho, q.2) := by
  refine Ms.of 0 (by decide +kernel) rfl (fun z => absurd z (by decide)) (fun _ _ _ => trivial) rfl rfl ?_
  unfold f_X10_status at h
  show Ev M_X10_status 210 210 _ 0 210 rho σ [(2, (0 : Int)), (0, x1)] []
  refine ev_iload_n dX10_status_0 rfl ?_
  refine ev_bipush dX10_status_1 (by decide) (by decide) ?_
  refine ev_icmp_lt (tgt := 22) dX10_status_3 rfl h (fun cb h => ?_) (fun cb h => ?_)
  · exact ev_sub (L2 := [(2, (0 : Int)), (0, x1)]) (e_X10_status_22 σ x1 h) ⟨.inr rfl, .inr rfl, trivial⟩
  refine ev_iload_n dX10_status_6 rfl ?_
  refine ev_bipush dX10_status_7 (by decide) (by decide) ?_
  refine ev_icmp_ge (tgt := 22) dX10_status_9 rfl h (fun cb h => ?_) (fun cb h => ?_)
  · exact ev_sub (L2 := [(2, (0 : Int)), (0, x1)]) (e_X10_status_22 σ x1 h) ⟨.inr rfl, .inr rfl, trivial⟩
  refine ev_aload_n dX10_status_12 rfl (by decide) ?_
  refine ev_getf (j := 6) (t := 2) (x := (34 : Int)) dX10_status_13 cf_X10 wf_X10_36 sp0 (by decide) (by decide) rfl (by decide) (rp0_6 _) ?_
  refine ev_iload_n dX10_status_16 rfl ?_
  refine ev_bipush dX10_status_17 (by decide) (by decide) ?_
  refine ev_isub dX10_status_19 ?_
  refine ev_iald dX10_status_20 sp34 (by decide) (by decide) h (fun h => ?_)
  obtain rfl := Option.some.inj h
  dsimp only
  exact ev_iret dX10_status_21 rfl rfl
set_option maxHeartbeats 4000000 in
set_option maxRecDepth 20000 in
theorem c_X11_isIn {σ : Mem} {x0 x2 x4 : Int}  {q : Int} (h : f_X11_isIn σ x0 x2 x4 = some q) : Ms yX11_isIn M_X11_isIn 210 210 [(1, x0), (1, x2), (1, x4)] rho σ (some (0, q), rho, σ) := by
  refine Ms.of 0 (by decide +kernel) rfl (fun z => absurd z (by decide)) (fun _ _ _ => trivial) rfl rfl ?_
  unfold f_X11_isIn at h
  show Ev M_X11_isIn 210 210 _ 0 210 rho σ [(1, x0), (9, 0), (1, x2), (9, 0), (1, x4), (9, 0)] []
  refine ev_lload_n dX11_isIn_0 rfl ?_
  refine ev_lload_n dX11_isIn_1 rfl ?_
  refine ev_lc_lt (tgt := 17) dX11_isIn_2 dX11_isIn_3 rfl h (fun cb h => ?_) (fun cb h => ?_)
  · refine ev_iconst dX11_isIn_17 (by decide) ?_
    obtain rfl := Option.some.inj h
    exact ev_zret dX11_isIn_18 rfl (chk_pos (.inl rfl))
  refine ev_lload_n dX11_isIn_6 rfl ?_
  refine ev_lload dX11_isIn_7 rfl ?_
  refine ev_lc_gt (tgt := 17) dX11_isIn_9 dX11_isIn_10 rfl h (fun cb h => ?_) (fun cb h => ?_)
  · refine ev_iconst dX11_isIn_17 (by decide) ?_
    obtain rfl := Option.some.inj h
    exact ev_zret dX11_isIn_18 rfl (chk_pos (.inl rfl))
  refine ev_iconst dX11_isIn_13 (by decide) ?_
  refine ev_goto (tgt := 18) dX11_isIn_14 rfl ?_
  obtain rfl := Option.some.inj h
  exact ev_zret dX11_isIn_18 rfl (chk_pos (.inr rfl))
set_option maxHeartbeats 4000000 in
set_option maxRecDepth 20000 in
theorem c_X11_no {σ : Mem} {x1 : Int}  {q : (Int × Mem)} (h : f_X11_no σ x1 = some q) : Ms yX11_no M_X11_no 210 210 [(2, (173 : Int)), (0, x1)] rho σ (some (0, q.1), rho, q.2) := by
  refine Ms.of 0 (by decide +kernel) rfl (fun z => absurd z (by decide)) (fun _ _ _ => trivial) rfl rfl ?_
  unfold f_X11_no at h
  show Ev M_X11_no 210 210 _ 0 210 rho σ [(2, (173 : Int)), (0, x1)] []
  refine ev_aload_n dX11_no_0 rfl (by decide) ?_
  refine ev_getf (j := 3) (t := 2) (x := (176 : Int)) dX11_no_1 cf_X11 wf_X11_16 sp173 (by decide) (by decide) rfl (by decide) (rp173_3 _) ?_
  refine ev_bipush dX11_no_4 (by decide) (by decide) ?_
  refine ev_iload_n dX11_no_6 rfl ?_
  refine ev_isub dX11_no_7 ?_
  refine ev_dup2 dX11_no_8 (show (0 : Nat) ≠ 1 by decide) (show (2 : Nat) ≠ 1 by decide) ?_
  refine ev_iald dX11_no_9 sp176 (by decide) (by decide) h (fun h => ?_)
  refine ev_iconst dX11_no_10 (by decide) ?_
  refine ev_iadd dX11_no_11 ?_
  refine ev_iastG dX11_no_12 sp176 (by decide) (by decide) h (fun σ1 h => ?_)
  refine ev_iload_n dX11_no_13 rfl ?_
  show Ev _ _ _ _ 14 _ _ _ _ _
  obtain rfl := Option.some.inj h
  dsimp only
  exact ev_iret dX11_no_14 rfl rfl
set_option maxHeartbeats 4000000 in
set_option maxRecDepth 20000 in
theorem c_X11_isPaper {σ : Mem} {x1 : Int}  {q : Int} (h : f_X11_isPaper σ x1 = some q) : Ms yX11_isPaper M_X11_isPaper 210 210 [(2, (173 : Int)), (0, x1)] rho σ (some (0, q), rho, σ) := by
  refine Ms.of 0 (by decide +kernel) rfl (fun z => absurd z (by decide)) (fun _ _ _ => trivial) rfl rfl ?_
  unfold f_X11_isPaper at h
  show Ev M_X11_isPaper 210 210 _ 0 210 rho σ [(2, (173 : Int)), (0, x1)] []
  refine ev_iload_n dX11_isPaper_0 rfl ?_
  refine ev_i2lk dX11_isPaper_1 ?_
  refine ev_lconst (x := (0 : Int)) dX11_isPaper_2 (by decide) (by decide) ?_
  refine ev_aload_n dX11_isPaper_3 rfl (by decide) ?_
  refine ev_getf (j := 0) (t := 2) (x := (174 : Int)) dX11_isPaper_4 cf_X11 wf_X11_7 sp173 (by decide) (by decide) rfl (by decide) (rp173_0 _) ?_
  refine ev_bipush dX11_isPaper_7 (by decide) (by decide) ?_
  refine ev_iald dX11_isPaper_9 sp174 (by decide) (by decide) h (fun h => ?_)
  refine ev_iconst dX11_isPaper_10 (by decide) ?_
  refine ev_isub dX11_isPaper_11 ?_
  refine ev_i2lk dX11_isPaper_12 ?_
  obtain ⟨v1, hc2, h⟩ := bind_of h
  refine ev_invS_v (av := [(1, x1), (1, (0 : Int)), (1, (jsub (σ (174 : Int) (82 : Int)) (1 : Int)))]) (st := []) (v := (0, v1)) (τ := σ) dX11_isPaper_13 ml_X11_120 mt_X11_isIn rfl ⟨Nat.le_of_ble_eq_true rfl, Nat.le_of_ble_eq_true rfl⟩ (Nat.le_of_ble_eq_true rfl) (c_X11_isIn hc2) ?_
  show Ev _ _ _ _ 16 _ _ _ _ _
  obtain ⟨hz, h⟩ := chk_of h
  obtain rfl := Option.some.inj h
  exact ev_zret dX11_isPaper_16 rfl (chk_pos hz)
set_option maxHeartbeats 4000000 in
set_option maxRecDepth 20000 in
theorem c_X11_isCand {σ : Mem} {x1 : Int}  {q : Int} (h : f_X11_isCand σ x1 = some q) : Ms yX11_isCand M_X11_isCand 210 210 [(2, (173 : Int)), (0, x1)] rho σ (some (0, q), rho, σ) := by
  refine Ms.of 0 (by decide +kernel) rfl (fun z => absurd z (by decide)) (fun _ _ _ => trivial) rfl rfl ?_
  unfold f_X11_isCand at h
  show Ev M_X11_isCand 210 210 _ 0 210 rho σ [(2, (173 : Int)), (0, x1)] []
  refine ev_iload_n dX11_isCand_0 rfl ?_
  refine ev_i2lk dX11_isCand_1 ?_
  refine ev_lconst (x := (0 : Int)) dX11_isCand_2 (by decide) (by decide) ?_
  refine ev_aload_n dX11_isCand_3 rfl (by decide) ?_
  refine ev_getf (j := 0) (t := 2) (x := (174 : Int)) dX11_isCand_4 cf_X11 wf_X11_7 sp173 (by decide) (by decide) rfl (by decide) (rp173_0 _) ?_
  refine ev_bipush dX11_isCand_7 (by decide) (by decide) ?_
  refine ev_iald dX11_isCand_9 sp174 (by decide) (by decide) h (fun h => ?_)
  refine ev_iconst dX11_isCand_10 (by decide) ?_
  refine ev_isub dX11_isCand_11 ?_
  refine ev_i2lk dX11_isCand_12 ?_
  obtain ⟨v1, hc2, h⟩ := bind_of h
  refine ev_invS_v (av := [(1, x1), (1, (0 : Int)), (1, (jsub (σ (174 : Int) (83 : Int)) (1 : Int)))]) (st := []) (v := (0, v1)) (τ := σ) dX11_isCand_13 ml_X11_120 mt_X11_isIn rfl ⟨Nat.le_of_ble_eq_true rfl, Nat.le_of_ble_eq_true rfl⟩ (Nat.le_of_ble_eq_true rfl) (c_X11_isIn hc2) ?_
  show Ev _ _ _ _ 16 _ _ _ _ _
  obtain ⟨hz, h⟩ := chk_of h
  obtain rfl := Option.some.inj h
  exact ev_zret dX11_isCand_16 rfl (chk_pos hz)
set_option maxHeartbeats 4000000 in
set_option maxRecDepth 20000 in
theorem c_X11_isDay {σ : Mem} {x0 : Int}  {q : Int} (h : f_X11_isDay σ x0 = some q) : Ms yX11_isDay M_X11_isDay 210 210 [(0, x0)] rho σ (some (0, q), rho, σ) := by
  refine Ms.of 0 (by decide +kernel) rfl (fun z => absurd z (by decide)) (fun _ _ _ => trivial) rfl rfl ?_
  unfold f_X11_isDay at h
  show Ev M_X11_isDay 210 210 _ 0 210 rho σ [(0, x0)] []
  refine ev_iload_n dX11_isDay_0 rfl ?_
  refine ev_i2lk dX11_isDay_1 ?_
  refine ev_lconst (x := (0 : Int)) dX11_isDay_2 (by decide) (by decide) ?_
  refine ev_ldc2 (x := (4 : Int)) dX11_isDay_3 wc_X11_124 (by decide) (by decide) ?_
  obtain ⟨v1, hc2, h⟩ := bind_of h
  refine ev_invS_v (av := [(1, x0), (1, (0 : Int)), (1, (4 : Int))]) (st := []) (v := (0, v1)) (τ := σ) dX11_isDay_6 ml_X11_120 mt_X11_isIn rfl ⟨Nat.le_of_ble_eq_true rfl, Nat.le_of_ble_eq_true rfl⟩ (Nat.le_of_ble_eq_true rfl) (c_X11_isIn hc2) ?_
  obtain ⟨hz, h⟩ := chk_of h
  obtain rfl := Option.some.inj h
  exact ev_zret dX11_isDay_9 rfl (chk_pos hz)
set_option maxHeartbeats 4000000 in
set_option maxRecDepth 20000 in
theorem c_X11_isSlot {σ : Mem} {x0 : Int}  {q : Int} (h : f_X11_isSlot σ x0 = some q) : Ms yX11_isSlot M_X11_isSlot 210 210 [(0, x0)] rho σ (some (0, q), rho, σ) := by
  refine Ms.of 0 (by decide +kernel) rfl (fun z => absurd z (by decide)) (fun _ _ _ => trivial) rfl rfl ?_
  unfold f_X11_isSlot at h
  show Ev M_X11_isSlot 210 210 _ 0 210 rho σ [(0, x0)] []
  refine ev_iload_n dX11_isSlot_0 rfl ?_
  refine ev_i2lk dX11_isSlot_1 ?_
  refine ev_lconst (x := (0 : Int)) dX11_isSlot_2 (by decide) (by decide) ?_
  refine ev_ldc2 (x := (47 : Int)) dX11_isSlot_3 wc_X11_126 (by decide) (by decide) ?_
  obtain ⟨v1, hc2, h⟩ := bind_of h
  refine ev_invS_v (av := [(1, x0), (1, (0 : Int)), (1, (47 : Int))]) (st := []) (v := (0, v1)) (τ := σ) dX11_isSlot_6 ml_X11_120 mt_X11_isIn rfl ⟨Nat.le_of_ble_eq_true rfl, Nat.le_of_ble_eq_true rfl⟩ (Nat.le_of_ble_eq_true rfl) (c_X11_isIn hc2) ?_
  obtain ⟨hz, h⟩ := chk_of h
  obtain rfl := Option.some.inj h
  exact ev_zret dX11_isSlot_9 rfl (chk_pos hz)
set_option maxHeartbeats 4000000 in
set_option maxRecDepth 20000 in
theorem c_X11_day {σ : Mem} {x1 : Int}  {q : Int} (h : f_X11_day σ x1 = some q) : Ms yX11_day M_X11_day 210 210 [(2, (173 : Int)), (0, x1)] rho σ (some (0, q), rho, σ) := by
  refine Ms.of 0 (by decide +kernel) rfl (fun z => absurd z (by decide)) (fun _ _ _ => trivial) rfl rfl ?_
  unfold f_X11_day at h
  show Ev M_X11_day 210 210 _ 0 210 rho σ [(2, (173 : Int)), (0, x1)] []
  refine ev_aload_n dX11_day_0 rfl (by decide) ?_
  refine ev_getf (j := 0) (t := 2) (x := (174 : Int)) dX11_day_1 cf_X11 wf_X11_7 sp173 (by decide) (by decide) rfl (by decide) (rp173_0 _) ?_
  refine ev_iconst dX11_day_4 (by decide) ?_
  refine ev_iconst dX11_day_5 (by decide) ?_
  refine ev_iload_n dX11_day_6 rfl ?_
  refine ev_imul dX11_day_7 ?_
  refine ev_iadd dX11_day_8 ?_
  refine ev_iald dX11_day_9 sp174 (by decide) (by decide) h (fun h => ?_)
  obtain rfl := Option.some.inj h
  exact ev_iret dX11_day_10 rfl rfl
set_option maxHeartbeats 4000000 in
set_option maxRecDepth 20000 in
theorem c_X11_start {σ : Mem} {x1 : Int}  {q : Int} (h : f_X11_start σ x1 = some q) : Ms yX11_start M_X11_start 210 210 [(2, (173 : Int)), (0, x1)] rho σ (some (0, q), rho, σ) := by
  refine Ms.of 0 (by decide +kernel) rfl (fun z => absurd z (by decide)) (fun _ _ _ => trivial) rfl rfl ?_
  unfold f_X11_start at h
  show Ev M_X11_start 210 210 _ 0 210 rho σ [(2, (173 : Int)), (0, x1)] []
  refine ev_aload_n dX11_start_0 rfl (by decide) ?_
  refine ev_getf (j := 0) (t := 2) (x := (174 : Int)) dX11_start_1 cf_X11 wf_X11_7 sp173 (by decide) (by decide) rfl (by decide) (rp173_0 _) ?_
  refine ev_iconst dX11_start_4 (by decide) ?_
  refine ev_iconst dX11_start_5 (by decide) ?_
  refine ev_iload_n dX11_start_6 rfl ?_
  refine ev_imul dX11_start_7 ?_
  refine ev_iadd dX11_start_8 ?_
  refine ev_iconst dX11_start_9 (by decide) ?_
  refine ev_iadd dX11_start_10 ?_
  refine ev_iald dX11_start_11 sp174 (by decide) (by decide) h (fun h => ?_)
  obtain rfl := Option.some.inj h
  exact ev_iret dX11_start_12 rfl rfl
set_option maxHeartbeats 4000000 in
set_option maxRecDepth 20000 in
theorem c_X11_length {σ : Mem} {x1 : Int}  {q : Int} (h : f_X11_length σ x1 = some q) : Ms yX11_length M_X11_length 210 210 [(2, (173 : Int)), (0, x1)] rho σ (some (0, q), rho, σ) := by
  refine Ms.of 0 (by decide +kernel) rfl (fun z => absurd z (by decide)) (fun _ _ _ => trivial) rfl rfl ?_
  unfold f_X11_length at h
  show Ev M_X11_length 210 210 _ 0 210 rho σ [(2, (173 : Int)), (0, x1)] []
  refine ev_aload_n dX11_length_0 rfl (by decide) ?_
  refine ev_getf (j := 0) (t := 2) (x := (174 : Int)) dX11_length_1 cf_X11 wf_X11_7 sp173 (by decide) (by decide) rfl (by decide) (rp173_0 _) ?_
  refine ev_iconst dX11_length_4 (by decide) ?_
  refine ev_iconst dX11_length_5 (by decide) ?_
  refine ev_iload_n dX11_length_6 rfl ?_
  refine ev_imul dX11_length_7 ?_
  refine ev_iadd dX11_length_8 ?_
  refine ev_iconst dX11_length_9 (by decide) ?_
  refine ev_iadd dX11_length_10 ?_
  refine ev_iald dX11_length_11 sp174 (by decide) (by decide) h (fun h => ?_)
  obtain rfl := Option.some.inj h
  exact ev_iret dX11_length_12 rfl rfl
set_option maxHeartbeats 4000000 in
set_option maxRecDepth 20000 in
theorem c_X11_who {σ : Mem} {x1 x2 : Int}  {q : Int} (h : f_X11_who σ x1 x2 = some q) : Ms yX11_who M_X11_who 210 210 [(2, (173 : Int)), (0, x1), (0, x2)] rho σ (some (0, q), rho, σ) := by
  refine Ms.of 0 (by decide +kernel) rfl (fun z => absurd z (by decide)) (fun _ _ _ => trivial) rfl rfl ?_
  unfold f_X11_who at h
  show Ev M_X11_who 210 210 _ 0 210 rho σ [(2, (173 : Int)), (0, x1), (0, x2)] []
  refine ev_aload_n dX11_who_0 rfl (by decide) ?_
  refine ev_getf (j := 0) (t := 2) (x := (174 : Int)) dX11_who_1 cf_X11 wf_X11_7 sp173 (by decide) (by decide) rfl (by decide) (rp173_0 _) ?_
  refine ev_bipush dX11_who_4 (by decide) (by decide) ?_
  refine ev_iconst dX11_who_6 (by decide) ?_
  refine ev_iload_n dX11_who_7 rfl ?_
  refine ev_imul dX11_who_8 ?_
  refine ev_iadd dX11_who_9 ?_
  refine ev_iload_n dX11_who_10 rfl ?_
  refine ev_iadd dX11_who_11 ?_
  refine ev_iald dX11_who_12 sp174 (by decide) (by decide) h (fun h => ?_)
  obtain rfl := Option.some.inj h
  exact ev_iret dX11_who_13 rfl rfl
set_option maxHeartbeats 4000000 in
set_option maxRecDepth 20000 in
theorem c_X11_has {σ : Mem} {x1 x2 : Int}  {q : Int} (h : f_X11_has σ x1 x2 = some q) : Ms yX11_has M_X11_has 210 210 [(2, (173 : Int)), (0, x1), (0, x2)] rho σ (some (0, q), rho, σ) := by
  refine Ms.of 0 (by decide +kernel) rfl (fun z => absurd z (by decide)) (fun _ _ _ => trivial) rfl rfl ?_
  unfold f_X11_has at h
  show Ev M_X11_has 210 210 _ 0 210 rho σ [(2, (173 : Int)), (0, x1), (0, x2)] []
  refine ev_aload_n dX11_has_0 rfl (by decide) ?_
  refine ev_iload_n dX11_has_1 rfl ?_
  refine ev_iconst dX11_has_2 (by decide) ?_
  obtain ⟨v1, hc2, h⟩ := bind_of h
  refine ev_invV_v (k := (173 : Int)) (av := [(0, x1), (0, (3 : Int))]) (st := []) (v := (0, v1)) (τ := σ) dX11_has_3 ml_X11_128 mv_X11_who (T := TX11) (ci := 10) rfl sp173 (by decide) (by decide) rfl ⟨Nat.le_of_ble_eq_true rfl, Nat.le_of_ble_eq_true rfl⟩ (Nat.le_of_ble_eq_true rfl) (c_X11_who hc2) ?_
  refine ev_iload_n dX11_has_6 rfl ?_
  refine ev_ishr dX11_has_7 ?_
  refine ev_iconst dX11_has_8 (by decide) ?_
  refine ev_iand dX11_has_9 ?_
  refine ev_iconst dX11_has_10 (by decide) ?_
  refine ev_icmp_ne (tgt := 18) dX11_has_11 rfl h (fun cb h => ?_) (fun cb h => ?_)
  · refine ev_iconst dX11_has_18 (by decide) ?_
    obtain rfl := Option.some.inj h
    exact ev_zret dX11_has_19 rfl (chk_pos (.inl rfl))
  refine ev_iconst dX11_has_14 (by decide) ?_
  refine ev_goto (tgt := 19) dX11_has_15 rfl ?_
  obtain rfl := Option.some.inj h
  exact ev_zret dX11_has_19 rfl (chk_pos (.inr rfl))
def K_X11_many_4 (σ : Mem) (x0 : Int) (r : Option V × Mem × Mem) : (Int × Int) ⊕ ((Int)) → Prop := Sum.elim (fun a => Ev M_X11_many 210 210 r 4 210 rho σ [(0, x0), (0, a.1), (0, a.2)] []) (fun e => Ev M_X11_many 210 210 r 24 210 rho σ [(9, 0), (0, e), (9, 0)] [])
set_option maxHeartbeats 4000000 in
set_option maxRecDepth 20000 in
theorem b_X11_many_4 (σ : Mem) (x0 : Int)  {r : Option V × Mem × Mem} : ∀ a x, f_X11_many_4B σ x0 a = some x → K_X11_many_4 σ x0 r x → K_X11_many_4 σ x0 r (.inl a) := by
  intro a x h K
  obtain ⟨x1, x2⟩ := a
  have h : f_X11_many_4C σ x0 x1 x2 = some x := h
  unfold f_X11_many_4C at h
  show Ev M_X11_many 210 210 r 4 210 rho σ [(0, x0), (0, x1), (0, x2)] []
  refine ev_iload_n dX11_many_4 rfl ?_
  refine ev_bipush dX11_many_5 (by decide) (by decide) ?_
  refine ev_icmp_ge (tgt := 24) dX11_many_7 rfl h (fun cb h => ?_) (fun cb h => ?_)
  · obtain rfl := Option.some.inj h
    exact ev_sub (L2 := [(9, 0), (0, x1), (9, 0)]) K ⟨.inl rfl, .inr rfl, .inl rfl, trivial⟩
  refine ev_iload_n dX11_many_10 rfl ?_
  refine ev_iload_n dX11_many_11 rfl ?_
  refine ev_iload_n dX11_many_12 rfl ?_
  refine ev_ishr dX11_many_13 ?_
  refine ev_iconst dX11_many_14 (by decide) ?_
  refine ev_iand dX11_many_15 ?_
  refine ev_iadd dX11_many_16 ?_
  refine ev_istore_nG dX11_many_17 h rfl (by decide) (fun v1 h => ?_)
  show Ev _ _ _ _ 18 _ _ _ [(0, x0), (0, v1), (0, x2)] _
  refine ev_iincG dX11_many_18 rfl h rfl (fun v2 h => ?_)
  show Ev _ _ _ _ 21 _ _ _ [(0, x0), (0, v1), (0, v2)] _
  refine ev_goto (tgt := 4) dX11_many_21 rfl ?_
  obtain rfl := Option.some.inj h
  exact ev_sub (L2 := [(0, x0), (0, v1), (0, v2)]) K ⟨.inr rfl, .inr rfl, .inr rfl, trivial⟩
set_option maxHeartbeats 4000000 in
set_option maxRecDepth 20000 in
theorem e_X11_many_4 (σ : Mem) (x0 x1 x2 : Int)  {q : Int} (h : f_X11_many_4 σ x0 x1 x2 = some q) : Ev M_X11_many 210 210 (some (0, q), rho, σ) 4 210 rho σ [(0, x0), (0, x1), (0, x2)] [] := by
  unfold f_X11_many_4 at h
  obtain ⟨e, hl, h⟩ := bind_of h
  refine loop_ev (K := K_X11_many_4 σ x0 (some (0, q), rho, σ)) (b_X11_many_4 σ x0) FU (x1, x2) e hl ?_
  show Ev M_X11_many 210 210 _ 24 210 rho σ [(9, 0), (0, e), (9, 0)] []
  replace h : some e = some q := h
  refine ev_iload_n dX11_many_24 rfl ?_
  obtain rfl := Option.some.inj h
  exact ev_iret dX11_many_25 rfl rfl
set_option maxHeartbeats 4000000 in
set_option maxRecDepth 20000 in
theorem c_X11_many {σ : Mem} {x0 : Int}  {q : Int} (h : f_X11_many σ x0 = some q) : Ms yX11_many M_X11_many 210 210 [(0, x0)] rho σ (some (0, q), rho, σ) := by
  refine Ms.of 2 (by decide +kernel) rfl (fun z => absurd z (by decide)) (fun _ _ _ => trivial) rfl rfl ?_
  unfold f_X11_many at h
  show Ev M_X11_many 210 210 _ 0 210 rho σ [(0, x0), (9, 0), (9, 0)] []
  refine ev_iconst dX11_many_0 (by decide) ?_
  refine ev_istore_n dX11_many_1 rfl (by decide) ?_
  show Ev _ _ _ _ 2 _ _ _ [(0, x0), (0, (0 : Int)), (9, 0)] _
  refine ev_iconst dX11_many_2 (by decide) ?_
  refine ev_istore_n dX11_many_3 rfl (by decide) ?_
  show Ev _ _ _ _ 4 _ _ _ [(0, x0), (0, (0 : Int)), (0, (0 : Int))] _
  exact ev_sub (L2 := [(0, x0), (0, (0 : Int)), (0, (0 : Int))]) (e_X11_many_4 σ x0 (0 : Int) (0 : Int) h) ⟨.inr rfl, .inr rfl, .inr rfl, trivial⟩
set_option maxHeartbeats 4000000 in
set_option maxRecDepth 20000 in
theorem c_X11_timeOf {σ : Mem} {x0 x1 x2 : Int}  {q : Int} (h : f_X11_timeOf σ x0 x1 x2 = some q) : Ms yX11_timeOf M_X11_timeOf 210 210 [(0, x0), (0, x1), (0, x2)] rho σ (some (0, q), rho, σ) := by
  refine Ms.of 1 (by decide +kernel) rfl (fun z => absurd z (by decide)) (fun _ _ _ => trivial) rfl rfl ?_
  unfold f_X11_timeOf at h
  show Ev M_X11_timeOf 210 210 _ 0 210 rho σ [(0, x0), (0, x1), (0, x2), (9, 0)] []
  refine ev_iload_n dX11_timeOf_0 rfl ?_
  refine ev_iload_n dX11_timeOf_1 rfl ?_
  refine ev_iload_n dX11_timeOf_2 rfl ?_
  refine ev_imul dX11_timeOf_3 ?_
  refine ev_bipush dX11_timeOf_4 (by decide) (by decide) ?_
  refine ev_iadd dX11_timeOf_6 ?_
  refine ev_bipush dX11_timeOf_7 (by decide) (by decide) ?_
  refine ev_idiv dX11_timeOf_9 h (fun h => ?_)
  refine ev_iadd dX11_timeOf_10 ?_
  refine ev_istore_nG dX11_timeOf_11 h rfl (by decide) (fun v1 h => ?_)
  show Ev _ _ _ _ 12 _ _ _ [(0, x0), (0, x1), (0, x2), (0, v1)] _
  refine ev_iload_n dX11_timeOf_12 rfl ?_
  show Ev _ _ _ _ 13 _ _ _ _ _
  refine ev_iconst dX11_timeOf_13 (by decide) ?_
  refine ev_icmp_ne (tgt := 21) dX11_timeOf_14 rfl h (fun cb h => ?_) (fun cb h => ?_)
  · refine ev_iload_n dX11_timeOf_21 rfl ?_
    refine ev_iconst dX11_timeOf_22 (by decide) ?_
    refine ev_icmp_ne (tgt := 32) dX11_timeOf_23 rfl h (fun cb h => ?_) (fun cb h => ?_)
    · refine ev_iload_n dX11_timeOf_32 rfl ?_
      refine ev_iconst dX11_timeOf_33 (by decide) ?_
      refine ev_icmp_ne (tgt := 43) dX11_timeOf_34 rfl h (fun cb h => ?_) (fun cb h => ?_)
      · refine ev_iload_n dX11_timeOf_43 rfl ?_
        obtain rfl := Option.some.inj h
        exact ev_iret dX11_timeOf_44 rfl rfl
      refine ev_iload_n dX11_timeOf_37 rfl ?_
      refine ev_iconst dX11_timeOf_38 (by decide) ?_
      refine ev_iadd dX11_timeOf_39 ?_
      refine ev_goto (tgt := 44) dX11_timeOf_40 rfl ?_
      obtain rfl := Option.some.inj h
      exact ev_iret dX11_timeOf_44 rfl rfl
    refine ev_iload_n dX11_timeOf_26 rfl ?_
    refine ev_iconst dX11_timeOf_27 (by decide) ?_
    refine ev_iadd dX11_timeOf_28 ?_
    refine ev_goto (tgt := 44) dX11_timeOf_29 rfl ?_
    obtain rfl := Option.some.inj h
    exact ev_iret dX11_timeOf_44 rfl rfl
  refine ev_iload_n dX11_timeOf_17 rfl ?_
  refine ev_goto (tgt := 44) dX11_timeOf_18 rfl ?_
  obtain rfl := Option.some.inj h
  exact ev_iret dX11_timeOf_44 rfl rfl
set_option maxHeartbeats 4000000 in
set_option maxRecDepth 20000 in
theorem c_X11_restOf {σ : Mem} {x0 x1 : Int}  {q : Int} (h : f_X11_restOf σ x0 x1 = some q) : Ms yX11_restOf M_X11_restOf 210 210 [(0, x0), (0, x1)] rho σ (some (0, q), rho, σ) := by
  refine Ms.of 1 (by decide +kernel) rfl (fun z => absurd z (by decide)) (fun _ _ _ => trivial) rfl rfl ?_
  unfold f_X11_restOf at h
  show Ev M_X11_restOf 210 210 _ 0 210 rho σ [(0, x0), (0, x1), (9, 0)] []
  refine ev_iconst dX11_restOf_0 (by decide) ?_
  refine ev_iload_n dX11_restOf_1 rfl ?_
  refine ev_iconst dX11_restOf_2 (by decide) ?_
  refine ev_idiv dX11_restOf_3 h (fun h => ?_)
  refine ev_iadd dX11_restOf_4 ?_
  refine ev_istore_nG dX11_restOf_5 h rfl (by decide) (fun v1 h => ?_)
  show Ev _ _ _ _ 6 _ _ _ [(0, x0), (0, x1), (0, v1)] _
  refine ev_iload_n dX11_restOf_6 rfl ?_
  refine ev_iconst dX11_restOf_7 (by decide) ?_
  refine ev_icmp_ne (tgt := 15) dX11_restOf_8 rfl h (fun cb h => ?_) (fun cb h => ?_)
  · refine ev_iload_n dX11_restOf_15 rfl ?_
    refine ev_iconst dX11_restOf_16 (by decide) ?_
    refine ev_icmp_ne (tgt := 26) dX11_restOf_17 rfl h (fun cb h => ?_) (fun cb h => ?_)
    · refine ev_iload_n dX11_restOf_26 rfl ?_
      refine ev_iconst dX11_restOf_27 (by decide) ?_
      refine ev_icmp_ne (tgt := 35) dX11_restOf_28 rfl h (fun cb h => ?_) (fun cb h => ?_)
      · refine ev_iconst dX11_restOf_35 (by decide) ?_
        obtain rfl := Option.some.inj h
        exact ev_iret dX11_restOf_36 rfl rfl
      refine ev_iconst dX11_restOf_31 (by decide) ?_
      refine ev_goto (tgt := 36) dX11_restOf_32 rfl ?_
      obtain rfl := Option.some.inj h
      exact ev_iret dX11_restOf_36 rfl rfl
    refine ev_iconst dX11_restOf_20 (by decide) ?_
    refine ev_iload_n dX11_restOf_21 rfl ?_
    refine ev_imul dX11_restOf_22 ?_
    refine ev_goto (tgt := 36) dX11_restOf_23 rfl ?_
    obtain rfl := Option.some.inj h
    exact ev_iret dX11_restOf_36 rfl rfl
  refine ev_iload_n dX11_restOf_11 rfl ?_
  refine ev_goto (tgt := 36) dX11_restOf_12 rfl ?_
  obtain rfl := Option.some.inj h
  exact ev_iret dX11_restOf_36 rfl rfl
set_option maxHeartbeats 4000000 in
set_option maxRecDepth 20000 in
theorem c_X11_timed {σ : Mem} {x1 x2 : Int}  {q : Int} (h : f_X11_timed σ x1 x2 = some q) : Ms yX11_timed M_X11_timed 210 210 [(2, (173 : Int)), (0, x1), (0, x2)] rho σ (some (0, q), rho, σ) := by
  refine Ms.of 0 (by decide +kernel) rfl (fun z => absurd z (by decide)) (fun _ _ _ => trivial) rfl rfl ?_
  unfold f_X11_timed at h
  show Ev M_X11_timed 210 210 _ 0 210 rho σ [(2, (173 : Int)), (0, x1), (0, x2)] []
  refine ev_aload_n dX11_timed_0 rfl (by decide) ?_
  refine ev_iload_n dX11_timed_1 rfl ?_
  refine ev_iconst dX11_timed_2 (by decide) ?_
  obtain ⟨v1, hc2, h⟩ := bind_of h
  refine ev_invV_v (k := (173 : Int)) (av := [(0, x1), (0, (0 : Int))]) (st := []) (v := (0, v1)) (τ := σ) dX11_timed_3 ml_X11_128 mv_X11_who (T := TX11) (ci := 10) rfl sp173 (by decide) (by decide) rfl ⟨Nat.le_of_ble_eq_true rfl, Nat.le_of_ble_eq_true rfl⟩ (Nat.le_of_ble_eq_true rfl) (c_X11_who hc2) ?_
  refine ev_aload_n dX11_timed_6 rfl (by decide) ?_
  refine ev_iload_n dX11_timed_7 rfl ?_
  refine ev_iconst dX11_timed_8 (by decide) ?_
  obtain ⟨v3, hc4, h⟩ := bind_of h
  refine ev_invV_v (k := (173 : Int)) (av := [(0, x1), (0, (1 : Int))]) (st := [(0, v1)]) (v := (0, v3)) (τ := σ) dX11_timed_9 ml_X11_128 mv_X11_who (T := TX11) (ci := 10) rfl sp173 (by decide) (by decide) rfl ⟨Nat.le_of_ble_eq_true rfl, Nat.le_of_ble_eq_true rfl⟩ (Nat.le_of_ble_eq_true rfl) (c_X11_who hc4) ?_
  refine ev_aload_n dX11_timed_12 rfl (by decide) ?_
  refine ev_iload_n dX11_timed_13 rfl ?_
  obtain ⟨v5, hc6, h⟩ := bind_of h
  refine ev_invV_v (k := (173 : Int)) (av := [(0, x2)]) (st := [(0, v3), (0, v1)]) (v := (0, v5)) (τ := σ) dX11_timed_14 ml_X11_132 mv_X11_length (T := TX11) (ci := 10) rfl sp173 (by decide) (by decide) rfl ⟨Nat.le_of_ble_eq_true rfl, Nat.le_of_ble_eq_true rfl⟩ (Nat.le_of_ble_eq_true rfl) (c_X11_length hc6) ?_
  show Ev _ _ _ _ 17 _ _ _ _ _
  obtain ⟨v7, hc8, h⟩ := bind_of h
  refine ev_invS_v (av := [(0, v1), (0, v3), (0, v5)]) (st := []) (v := (0, v7)) (τ := σ) dX11_timed_17 ml_X11_136 mt_X11_timeOf rfl ⟨Nat.le_of_ble_eq_true rfl, Nat.le_of_ble_eq_true rfl⟩ (Nat.le_of_ble_eq_true rfl) (c_X11_timeOf hc8) ?_
  obtain rfl := Option.some.inj h
  exact ev_iret dX11_timed_20 rfl rfl
set_option maxHeartbeats 4000000 in
set_option maxRecDepth 20000 in
theorem c_X11_rest {σ : Mem} {x1 : Int}  {q : Int} (h : f_X11_rest σ x1 = some q) : Ms yX11_rest M_X11_rest 210 210 [(2, (173 : Int)), (0, x1)] rho σ (some (0, q), rho, σ) := by
  refine Ms.of 0 (by decide +kernel) rfl (fun z => absurd z (by decide)) (fun _ _ _ => trivial) rfl rfl ?_
  unfold f_X11_rest at h
  show Ev M_X11_rest 210 210 _ 0 210 rho σ [(2, (173 : Int)), (0, x1)] []
  refine ev_aload_n dX11_rest_0 rfl (by decide) ?_
  refine ev_iload_n dX11_rest_1 rfl ?_
  refine ev_iconst dX11_rest_2 (by decide) ?_
  obtain ⟨v1, hc2, h⟩ := bind_of h
  refine ev_invV_v (k := (173 : Int)) (av := [(0, x1), (0, (0 : Int))]) (st := []) (v := (0, v1)) (τ := σ) dX11_rest_3 ml_X11_128 mv_X11_who (T := TX11) (ci := 10) rfl sp173 (by decide) (by decide) rfl ⟨Nat.le_of_ble_eq_true rfl, Nat.le_of_ble_eq_true rfl⟩ (Nat.le_of_ble_eq_true rfl) (c_X11_who hc2) ?_
  refine ev_aload_n dX11_rest_6 rfl (by decide) ?_
  refine ev_iload_n dX11_rest_7 rfl ?_
  refine ev_iconst dX11_rest_8 (by decide) ?_
  obtain ⟨v3, hc4, h⟩ := bind_of h
  refine ev_invV_v (k := (173 : Int)) (av := [(0, x1), (0, (1 : Int))]) (st := [(0, v1)]) (v := (0, v3)) (τ := σ) dX11_rest_9 ml_X11_128 mv_X11_who (T := TX11) (ci := 10) rfl sp173 (by decide) (by decide) rfl ⟨Nat.le_of_ble_eq_true rfl, Nat.le_of_ble_eq_true rfl⟩ (Nat.le_of_ble_eq_true rfl) (c_X11_who hc4) ?_
  obtain ⟨v5, hc6, h⟩ := bind_of h
  refine ev_invS_v (av := [(0, v1), (0, v3)]) (st := []) (v := (0, v5)) (τ := σ) dX11_rest_12 ml_X11_140 mt_X11_restOf rfl ⟨Nat.le_of_ble_eq_true rfl, Nat.le_of_ble_eq_true rfl⟩ (Nat.le_of_ble_eq_true rfl) (c_X11_restOf hc6) ?_
  obtain rfl := Option.some.inj h
  exact ev_iret dX11_rest_15 rfl rfl
set_option maxHeartbeats 4000000 in
set_option maxRecDepth 20000 in
theorem c_X11_isShelf {σ : Mem} {x0 : Int}  {q : Int} (h : f_X11_isShelf σ x0 = some q) : Ms yX11_isShelf M_X11_isShelf 210 210 [(0, x0)] rho σ (some (0, q), rho, σ) := by
  refine Ms.of 0 (by decide +kernel) rfl (fun z => absurd z (by decide)) (fun _ _ _ => trivial) rfl rfl ?_
  unfold f_X11_isShelf at h
  show Ev M_X11_isShelf 210 210 _ 0 210 rho σ [(0, x0)] []
  refine ev_iload_n dX11_isShelf_0 rfl ?_
  refine ev_i2lk dX11_isShelf_1 ?_
  refine ev_lconst (x := (0 : Int)) dX11_isShelf_2 (by decide) (by decide) ?_
  refine ev_ldc2 (x := (7 : Int)) dX11_isShelf_3 wc_X11_143 (by decide) (by decide) ?_
  obtain ⟨v1, hc2, h⟩ := bind_of h
  refine ev_invS_v (av := [(1, x0), (1, (0 : Int)), (1, (7 : Int))]) (st := []) (v := (0, v1)) (τ := σ) dX11_isShelf_6 ml_X11_120 mt_X11_isIn rfl ⟨Nat.le_of_ble_eq_true rfl, Nat.le_of_ble_eq_true rfl⟩ (Nat.le_of_ble_eq_true rfl) (c_X11_isIn hc2) ?_
  obtain ⟨hz, h⟩ := chk_of h
  obtain rfl := Option.some.inj h
  exact ev_zret dX11_isShelf_9 rfl (chk_pos hz)
set_option maxHeartbeats 4000000 in
set_option maxRecDepth 20000 in
theorem c_X11_isRow {σ : Mem} {x1 : Int}  {q : Int} (h : f_X11_isRow σ x1 = some q) : Ms yX11_isRow M_X11_isRow 210 210 [(2, (173 : Int)), (0, x1)] rho σ (some (0, q), rho, σ) := by
  refine Ms.of 0 (by decide +kernel) rfl (fun z => absurd z (by decide)) (fun _ _ _ => trivial) rfl rfl ?_
  unfold f_X11_isRow at h
  show Ev M_X11_isRow 210 210 _ 0 210 rho σ [(2, (173 : Int)), (0, x1)] []
  refine ev_aload_n dX11_isRow_0 rfl (by decide) ?_
  refine ev_getf (j := 4) (t := 2) (x := (177 : Int)) dX11_isRow_1 cf_X11 wf_X11_19 sp173 (by decide) (by decide) rfl (by decide) (rp173_4 _) ?_
  refine ev_iload_n dX11_isRow_4 rfl ?_
  refine ev_iald dX11_isRow_5 sp177 (by decide) (by decide) h (fun h => ?_)
  refine ev_if_lt (tgt := 24) dX11_isRow_6 rfl h (fun cb h => ?_) (fun cb h => ?_)
  · refine ev_iconst dX11_isRow_24 (by decide) ?_
    obtain rfl := Option.some.inj h
    exact ev_zret dX11_isRow_25 rfl (chk_pos (.inl rfl))
  refine ev_aload_n dX11_isRow_9 rfl (by decide) ?_
  refine ev_getf (j := 4) (t := 2) (x := (177 : Int)) dX11_isRow_10 cf_X11 wf_X11_19 sp173 (by decide) (by decide) rfl (by decide) (rp173_4 _) ?_
  refine ev_iload_n dX11_isRow_13 rfl ?_
  refine ev_iald dX11_isRow_14 sp177 (by decide) (by decide) h (fun h => ?_)
  refine ev_bipush dX11_isRow_15 (by decide) (by decide) ?_
  refine ev_icmp_ge (tgt := 24) dX11_isRow_17 rfl h (fun cb h => ?_) (fun cb h => ?_)
  · refine ev_iconst dX11_isRow_24 (by decide) ?_
    obtain rfl := Option.some.inj h
    exact ev_zret dX11_isRow_25 rfl (chk_pos (.inl rfl))
  refine ev_iconst dX11_isRow_20 (by decide) ?_
  refine ev_goto (tgt := 25) dX11_isRow_21 rfl ?_
  obtain rfl := Option.some.inj h
  exact ev_zret dX11_isRow_25 rfl (chk_pos (.inr rfl))
def K_X11_row_55 (x1 : Int) (r : Option V × Mem × Mem) : (Int × Mem) ⊕ ((Mem)) → Prop := Sum.elim (fun a => Ev M_X11_row 210 210 r 55 210 rho a.2 [(2, (173 : Int)), (0, x1), (9, 0), (9, 0), (0, a.1)] []) (fun e => Ev M_X11_row 210 210 r 81 210 rho e [(9, 0), (9, 0), (9, 0), (9, 0), (9, 0)] [])
set_option maxHeartbeats 4000000 in
set_option maxRecDepth 20000 in
theorem e_X11_row_31 (σ : Mem)  {q : (Int × Mem)} (h : f_X11_row_31 σ  = some q) : Ev M_X11_row 210 210 (some (0, q.1), rho, q.2) 31 210 rho σ [(2, (173 : Int)), (9, 0), (9, 0), (9, 0), (9, 0)] [] := by
  unfold f_X11_row_31 at h
  refine ev_aload_n dX11_row_31 rfl (by decide) ?_
  refine ev_bipush dX11_row_32 (by decide) (by decide) ?_
  obtain ⟨v9, hc10, h⟩ := bind_of h
  refine ev_invV_v (k := (173 : Int)) (av := [(0, (-52 : Int))]) (st := []) (v := (0, v9.1)) (τ := v9.2) dX11_row_34 ml_X11_151 mv_X11_no (T := TX11) (ci := 10) rfl sp173 (by decide) (by decide) rfl ⟨Nat.le_of_ble_eq_true rfl, Nat.le_of_ble_eq_true rfl⟩ (Nat.le_of_ble_eq_true rfl) (c_X11_no hc10) ?_
  obtain rfl := Option.some.inj h
  dsimp only
  exact ev_iret dX11_row_37 rfl rfl
set_option maxHeartbeats 4000000 in
set_option maxRecDepth 20000 in
theorem b_X11_row_55 (x1 : Int)  {r : Option V × Mem × Mem} : ∀ a x, f_X11_row_55B x1 a = some x → K_X11_row_55 x1 r x → K_X11_row_55 x1 r (.inl a) := by
  intro a x h K
  obtain ⟨x4, σ⟩ := a
  have h : f_X11_row_55C x1 x4 σ = some x := h
  unfold f_X11_row_55C at h
  show Ev M_X11_row 210 210 r 55 210 rho σ [(2, (173 : Int)), (0, x1), (9, 0), (9, 0), (0, x4)] []
  refine ev_iload dX11_row_55 rfl ?_
  refine ev_bipush dX11_row_57 (by decide) (by decide) ?_
  refine ev_icmp_ge (tgt := 81) dX11_row_59 rfl h (fun cb h => ?_) (fun cb h => ?_)
  · obtain rfl := Option.some.inj h
    exact ev_sub (L2 := [(9, 0), (9, 0), (9, 0), (9, 0), (9, 0)]) K ⟨.inl rfl, .inl rfl, .inl rfl, .inl rfl, .inl rfl, trivial⟩
  refine ev_aload_n dX11_row_62 rfl (by decide) ?_
  refine ev_getf (j := 6) (t := 2) (x := (179 : Int)) dX11_row_63 cf_X11 wf_X11_25 sp173 (by decide) (by decide) rfl (by decide) (rp173_6 _) ?_
  refine ev_bipush dX11_row_66 (by decide) (by decide) ?_
  refine ev_iload_n dX11_row_68 rfl ?_
  refine ev_imul dX11_row_69 ?_
  refine ev_iload dX11_row_70 rfl ?_
  refine ev_iadd dX11_row_72 ?_
  refine ev_lconst (x := (0 : Int)) dX11_row_73 (by decide) (by decide) ?_
  refine ev_lastG dX11_row_74 sp179 (by decide) (by decide) h (fun σ11 h => ?_)
  refine ev_iincG dX11_row_75 rfl h rfl (fun v12 h => ?_)
  show Ev _ _ _ _ 78 _ _ _ [(2, (173 : Int)), (0, x1), (9, 0), (9, 0), (0, v12)] _
  refine ev_goto (tgt := 55) dX11_row_78 rfl ?_
  obtain rfl := Option.some.inj h
  exact ev_sub (L2 := [(2, (173 : Int)), (0, x1), (9, 0), (9, 0), (0, v12)]) K ⟨.inr rfl, .inr rfl, .inl rfl, .inl rfl, .inr rfl, trivial⟩
set_option maxHeartbeats 4000000 in
set_option maxRecDepth 20000 in
theorem e_X11_row_55 (σ : Mem) (x1 x4 : Int)  {q : (Int × Mem)} (h : f_X11_row_55 σ x1 x4 = some q) : Ev M_X11_row 210 210 (some (0, q.1), rho, q.2) 55 210 rho σ [(2, (173 : Int)), (0, x1), (9, 0), (9, 0), (0, x4)] [] := by
  unfold f_X11_row_55 at h
  obtain ⟨e, hl, h⟩ := bind_of h
  refine loop_ev (K := K_X11_row_55 x1 (some (0, q.1), rho, q.2)) (b_X11_row_55 x1) FU (x4, σ) e hl ?_
  show Ev M_X11_row 210 210 _ 81 210 rho e [(9, 0), (9, 0), (9, 0), (9, 0), (9, 0)] []
  replace h : some ((1 : Int), e) = some q := h
  refine ev_iconst dX11_row_81 (by decide) ?_
  obtain rfl := Option.some.inj h
  dsimp only
  exact ev_iret dX11_row_82 rfl rfl
set_option maxHeartbeats 4000000 in
set_option maxRecDepth 20000 in
theorem c_X11_row {σ : Mem} {x1 x2 x3 : Int}  {q : (Int × Mem)} (h : f_X11_row σ x1 x2 x3 = some q) : Ms yX11_row M_X11_row 210 210 [(2, (173 : Int)), (0, x1), (0, x2), (0, x3)] rho σ (some (0, q.1), rho, q.2) := by
  refine Ms.of 1 (by decide +kernel) rfl (fun z => absurd z (by decide)) (fun _ _ _ => trivial) rfl rfl ?_
  unfold f_X11_row at h
  show Ev M_X11_row 210 210 _ 0 210 rho σ [(2, (173 : Int)), (0, x1), (0, x2), (0, x3), (9, 0)] []
  refine ev_iload_n dX11_row_0 rfl ?_
  obtain ⟨v1, hc2, h⟩ := bind_of h
  refine ev_invS_v (av := [(0, x1)]) (st := []) (v := (0, v1)) (τ := σ) dX11_row_1 ml_X11_145 mt_X11_isShelf rfl ⟨Nat.le_of_ble_eq_true rfl, Nat.le_of_ble_eq_true rfl⟩ (Nat.le_of_ble_eq_true rfl) (c_X11_isShelf hc2) ?_
  refine ev_if_eq (tgt := 31) dX11_row_4 rfl h (fun cb h => ?_) (fun cb h => ?_)
  · exact ev_sub (L2 := [(2, (173 : Int)), (9, 0), (9, 0), (9, 0), (9, 0)]) (e_X11_row_31 σ h) ⟨.inr rfl, .inl rfl, .inl rfl, .inl rfl, .inl rfl, trivial⟩
  refine ev_iload_n dX11_row_7 rfl ?_
  refine ev_i2lk dX11_row_8 ?_
  refine ev_lconst (x := (0 : Int)) dX11_row_9 (by decide) (by decide) ?_
  refine ev_ldc2 (x := (4 : Int)) dX11_row_10 wc_X11_124 (by decide) (by decide) ?_
  obtain ⟨v3, hc4, h⟩ := bind_of h
  refine ev_invS_v (av := [(1, x2), (1, (0 : Int)), (1, (4 : Int))]) (st := []) (v := (0, v3)) (τ := σ) dX11_row_13 ml_X11_120 mt_X11_isIn rfl ⟨Nat.le_of_ble_eq_true rfl, Nat.le_of_ble_eq_true rfl⟩ (Nat.le_of_ble_eq_true rfl) (c_X11_isIn hc4) ?_
  refine ev_if_eq (tgt := 31) dX11_row_16 rfl h (fun cb h => ?_) (fun cb h => ?_)
  · exact ev_sub (L2 := [(2, (173 : Int)), (9, 0), (9, 0), (9, 0), (9, 0)]) (e_X11_row_31 σ h) ⟨.inr rfl, .inl rfl, .inl rfl, .inl rfl, .inl rfl, trivial⟩
  refine ev_iload_n dX11_row_19 rfl ?_
  refine ev_i2lk dX11_row_20 ?_
  refine ev_lconst (x := (0 : Int)) dX11_row_21 (by decide) (by decide) ?_
  refine ev_ldc2 (x := (40 : Int)) dX11_row_22 wc_X11_149 (by decide) (by decide) ?_
  obtain ⟨v5, hc6, h⟩ := bind_of h
  refine ev_invS_v (av := [(1, x3), (1, (0 : Int)), (1, (40 : Int))]) (st := []) (v := (0, v5)) (τ := σ) dX11_row_25 ml_X11_120 mt_X11_isIn rfl ⟨Nat.le_of_ble_eq_true rfl, Nat.le_of_ble_eq_true rfl⟩ (Nat.le_of_ble_eq_true rfl) (c_X11_isIn hc6) ?_
  refine ev_if_ne (tgt := 38) dX11_row_28 rfl h (fun cb h => ?_) (fun cb h => ?_)
  · refine ev_aload_n dX11_row_38 rfl (by decide) ?_
    refine ev_getf (j := 4) (t := 2) (x := (177 : Int)) dX11_row_39 cf_X11 wf_X11_19 sp173 (by decide) (by decide) rfl (by decide) (rp173_4 _) ?_
    refine ev_iload_n dX11_row_42 rfl ?_
    refine ev_iload_n dX11_row_43 rfl ?_
    refine ev_iastG dX11_row_44 sp177 (by decide) (by decide) h (fun σ7 h => ?_)
    refine ev_aload_n dX11_row_45 rfl (by decide) ?_
    refine ev_getf (j := 5) (t := 2) (x := (178 : Int)) dX11_row_46 cf_X11 wf_X11_22 sp173 (by decide) (by decide) rfl (by decide) (rp173_5 _) ?_
    refine ev_iload_n dX11_row_49 rfl ?_
    refine ev_iload_n dX11_row_50 rfl ?_
    refine ev_iastG dX11_row_51 sp178 (by decide) (by decide) h (fun σ8 h => ?_)
    refine ev_iconst dX11_row_52 (by decide) ?_
    show Ev _ _ _ _ 53 _ _ _ _ _
    refine ev_istore dX11_row_53 rfl (by decide) ?_
    show Ev _ _ _ _ 55 _ _ _ [(2, (173 : Int)), (0, x1), (0, x2), (0, x3), (0, (0 : Int))] _
    exact ev_sub (L2 := [(2, (173 : Int)), (0, x1), (9, 0), (9, 0), (0, (0 : Int))]) (e_X11_row_55 σ8 x1 (0 : Int) h) ⟨.inr rfl, .inr rfl, .inl rfl, .inl rfl, .inr rfl, trivial⟩
  exact ev_sub (L2 := [(2, (173 : Int)), (9, 0), (9, 0), (9, 0), (9, 0)]) (e_X11_row_31 σ h) ⟨.inr rfl, .inl rfl, .inl rfl, .inl rfl, .inl rfl, trivial⟩
set_option maxHeartbeats 4000000 in
set_option maxRecDepth 20000 in
theorem e_X11_set_149 (σ : Mem) (s2 s1 : Int)  {q : (Int × Mem)} (h : f_X11_set_149 σ s2 s1 = some q) : Ev M_X11_set 210 210 (some (0, q.1), rho, q.2) 149 210 rho σ [(9, 0), (9, 0), (9, 0), (9, 0), (9, 0), (9, 0)] [(1, s2), (0, s1), (2, (179 : Int))] := by
  unfold f_X11_set_149 at h
  refine ev_lastG dX11_set_149 sp179 (by decide) (by decide) h (fun σ14 h => ?_)
  refine ev_iconst dX11_set_150 (by decide) ?_
  obtain rfl := Option.some.inj h
  dsimp only
  exact ev_iret dX11_set_151 rfl rfl
set_option maxHeartbeats 4000000 in
set_option maxRecDepth 20000 in
theorem c_X11_set {σ : Mem} {x1 x2 x3 : Int}  {q : (Int × Mem)} (h : f_X11_set σ x1 x2 x3 = some q) : Ms yX11_set M_X11_set 210 210 [(2, (173 : Int)), (0, x1), (0, x2), (1, x3)] rho σ (some (0, q.1), rho, q.2) := by
  refine Ms.of 1 (by decide +kernel) rfl (fun z => absurd z (by decide)) (fun _ _ _ => trivial) rfl rfl ?_
  unfold f_X11_set at h
  show Ev M_X11_set 210 210 _ 0 210 rho σ [(2, (173 : Int)), (0, x1), (0, x2), (1, x3), (9, 0), (9, 0)] []
  refine ev_iload_n dX11_set_0 rfl ?_
  obtain ⟨v1, hc2, h⟩ := bind_of h
  refine ev_invS_v (av := [(0, x1)]) (st := []) (v := (0, v1)) (τ := σ) dX11_set_1 ml_X11_145 mt_X11_isShelf rfl ⟨Nat.le_of_ble_eq_true rfl, Nat.le_of_ble_eq_true rfl⟩ (Nat.le_of_ble_eq_true rfl) (c_X11_isShelf hc2) ?_
  refine ev_if_ne (tgt := 14) dX11_set_4 rfl h (fun cb h => ?_) (fun cb h => ?_)
  · refine ev_aload_n dX11_set_14 rfl (by decide) ?_
    refine ev_getf (j := 4) (t := 2) (x := (177 : Int)) dX11_set_15 cf_X11 wf_X11_19 sp173 (by decide) (by decide) rfl (by decide) (rp173_4 _) ?_
    refine ev_iload_n dX11_set_18 rfl ?_
    refine ev_iald dX11_set_19 sp177 (by decide) (by decide) h (fun h => ?_)
    refine ev_bipush dX11_set_20 (by decide) (by decide) ?_
    refine ev_icmp_lt (tgt := 32) dX11_set_22 rfl h (fun cb h => ?_) (fun cb h => ?_)
    · refine ev_aload_n dX11_set_32 rfl (by decide) ?_
      refine ev_getf (j := 4) (t := 2) (x := (177 : Int)) dX11_set_33 cf_X11 wf_X11_19 sp173 (by decide) (by decide) rfl (by decide) (rp173_4 _) ?_
      refine ev_iload_n dX11_set_36 rfl ?_
      refine ev_iald dX11_set_37 sp177 (by decide) (by decide) h (fun h => ?_)
      refine ev_if_ge (tgt := 48) dX11_set_38 rfl h (fun cb h => ?_) (fun cb h => ?_)
      · refine ev_iload_n dX11_set_48 rfl ?_
        refine ev_i2lk dX11_set_49 ?_
        refine ev_lconst (x := (0 : Int)) dX11_set_50 (by decide) (by decide) ?_
        refine ev_aload_n dX11_set_51 rfl (by decide) ?_
        refine ev_getf (j := 5) (t := 2) (x := (178 : Int)) dX11_set_52 cf_X11 wf_X11_22 sp173 (by decide) (by decide) rfl (by decide) (rp173_5 _) ?_
        refine ev_iload_n dX11_set_55 rfl ?_
        refine ev_iald dX11_set_56 sp178 (by decide) (by decide) h (fun h => ?_)
        refine ev_iconst dX11_set_57 (by decide) ?_
        refine ev_isub dX11_set_58 ?_
        refine ev_i2lk dX11_set_59 ?_
        obtain ⟨v3, hc4, h⟩ := bind_of h
        refine ev_invS_v (av := [(1, x2), (1, (0 : Int)), (1, (jsub (σ (178 : Int) x1) (1 : Int)))]) (st := []) (v := (0, v3)) (τ := σ) dX11_set_60 ml_X11_120 mt_X11_isIn rfl ⟨Nat.le_of_ble_eq_true rfl, Nat.le_of_ble_eq_true rfl⟩ (Nat.le_of_ble_eq_true rfl) (c_X11_isIn hc4) ?_
        show Ev _ _ _ _ 63 _ _ _ _ _
        refine ev_if_ne (tgt := 73) dX11_set_63 rfl h (fun cb h => ?_) (fun cb h => ?_)
        · refine ev_aload_n dX11_set_73 rfl (by decide) ?_
          refine ev_getf (j := 4) (t := 2) (x := (177 : Int)) dX11_set_74 cf_X11 wf_X11_19 sp173 (by decide) (by decide) rfl (by decide) (rp173_4 _) ?_
          refine ev_iload_n dX11_set_77 rfl ?_
          refine ev_iald dX11_set_78 sp177 (by decide) (by decide) h (fun h => ?_)
          refine ev_istoreG dX11_set_79 h rfl (by decide) (fun v5 h => ?_)
          show Ev _ _ _ _ 81 _ _ _ [(2, (173 : Int)), (0, x1), (0, x2), (1, x3), (9, 0), (0, v5)] _
          refine ev_aload_n dX11_set_81 rfl (by decide) ?_
          refine ev_getf (j := 6) (t := 2) (x := (179 : Int)) dX11_set_82 cf_X11 wf_X11_25 sp173 (by decide) (by decide) rfl (by decide) (rp173_6 _) ?_
          refine ev_bipush dX11_set_85 (by decide) (by decide) ?_
          refine ev_iload_n dX11_set_87 rfl ?_
          refine ev_imul dX11_set_88 ?_
          refine ev_iload_n dX11_set_89 rfl ?_
          show Ev _ _ _ _ 90 _ _ _ _ _
          refine ev_iadd dX11_set_90 ?_
          refine ev_iload dX11_set_91 rfl ?_
          refine ev_if_ne (tgt := 103) dX11_set_93 rfl h (fun cb h => ?_) (fun cb h => ?_)
          · refine ev_iload dX11_set_103 rfl ?_
            refine ev_iconst dX11_set_105 (by decide) ?_
            refine ev_icmp_ne (tgt := 116) dX11_set_106 rfl h (fun cb h => ?_) (fun cb h => ?_)
            · refine ev_iload dX11_set_116 rfl ?_
              refine ev_iconst dX11_set_118 (by decide) ?_
              refine ev_icmp_ne (tgt := 128) dX11_set_119 rfl h (fun cb h => ?_) (fun cb h => ?_)
              · refine ev_iload dX11_set_128 rfl ?_
                refine ev_iconst dX11_set_130 (by decide) ?_
                refine ev_icmp_ne (tgt := 138) dX11_set_131 rfl h (fun cb h => ?_) (fun cb h => ?_)
                · refine ev_lload_n dX11_set_138 rfl ?_
                  refine ev_lconst (x := (0 : Int)) dX11_set_139 (by decide) (by decide) ?_
                  refine ev_lc_eq (tgt := 148) dX11_set_140 dX11_set_141 rfl h (fun cb h => ?_) (fun cb h => ?_)
                  · refine ev_lconst (x := (0 : Int)) dX11_set_148 (by decide) (by decide) ?_
                    exact ev_sub (L2 := [(9, 0), (9, 0), (9, 0), (9, 0), (9, 0), (9, 0)]) (e_X11_set_149 σ (0 : Int) (jadd (jmul (40 : Int) x1) x2) h) ⟨.inl rfl, .inl rfl, .inl rfl, .inl rfl, .inl rfl, .inl rfl, trivial⟩
                  refine ev_lconst (x := (1 : Int)) dX11_set_144 (by decide) (by decide) ?_
                  refine ev_goto (tgt := 149) dX11_set_145 rfl ?_
                  exact ev_sub (L2 := [(9, 0), (9, 0), (9, 0), (9, 0), (9, 0), (9, 0)]) (e_X11_set_149 σ (1 : Int) (jadd (jmul (40 : Int) x1) x2) h) ⟨.inl rfl, .inl rfl, .inl rfl, .inl rfl, .inl rfl, .inl rfl, trivial⟩
                refine ev_lload_n dX11_set_134 rfl ?_
                refine ev_goto (tgt := 149) dX11_set_135 rfl ?_
                exact ev_sub (L2 := [(9, 0), (9, 0), (9, 0), (9, 0), (9, 0), (9, 0)]) (e_X11_set_149 σ x3 (jadd (jmul (40 : Int) x1) x2) h) ⟨.inl rfl, .inl rfl, .inl rfl, .inl rfl, .inl rfl, .inl rfl, trivial⟩
              refine ev_lload_n dX11_set_122 rfl ?_
              refine ev_l2i dX11_set_123 ?_
              refine ev_i2lk dX11_set_124 ?_
              refine ev_goto (tgt := 149) dX11_set_125 rfl ?_
              exact ev_sub (L2 := [(9, 0), (9, 0), (9, 0), (9, 0), (9, 0), (9, 0)]) (e_X11_set_149 σ (lj x3) (jadd (jmul (40 : Int) x1) x2) h) ⟨.inl rfl, .inl rfl, .inl rfl, .inl rfl, .inl rfl, .inl rfl, trivial⟩
            refine ev_lload_n dX11_set_109 rfl ?_
            refine ev_l2i dX11_set_110 ?_
            refine ev_i2s dX11_set_111 ?_
            refine ev_i2lk dX11_set_112 ?_
            refine ev_goto (tgt := 149) dX11_set_113 rfl ?_
            exact ev_sub (L2 := [(9, 0), (9, 0), (9, 0), (9, 0), (9, 0), (9, 0)]) (e_X11_set_149 σ (js (lj x3)) (jadd (jmul (40 : Int) x1) x2) h) ⟨.inl rfl, .inl rfl, .inl rfl, .inl rfl, .inl rfl, .inl rfl, trivial⟩
          refine ev_lload_n dX11_set_96 rfl ?_
          refine ev_l2i dX11_set_97 ?_
          refine ev_i2b dX11_set_98 ?_
          refine ev_i2lk dX11_set_99 ?_
          refine ev_goto (tgt := 149) dX11_set_100 rfl ?_
          exact ev_sub (L2 := [(9, 0), (9, 0), (9, 0), (9, 0), (9, 0), (9, 0)]) (e_X11_set_149 σ (jb (lj x3)) (jadd (jmul (40 : Int) x1) x2) h) ⟨.inl rfl, .inl rfl, .inl rfl, .inl rfl, .inl rfl, .inl rfl, trivial⟩
        refine ev_aload_n dX11_set_66 rfl (by decide) ?_
        refine ev_bipush dX11_set_67 (by decide) (by decide) ?_
        obtain ⟨v6, hc7, h⟩ := bind_of h
        refine ev_invV_v (k := (173 : Int)) (av := [(0, (-52 : Int))]) (st := []) (v := (0, v6.1)) (τ := v6.2) dX11_set_69 ml_X11_151 mv_X11_no (T := TX11) (ci := 10) rfl sp173 (by decide) (by decide) rfl ⟨Nat.le_of_ble_eq_true rfl, Nat.le_of_ble_eq_true rfl⟩ (Nat.le_of_ble_eq_true rfl) (c_X11_no hc7) ?_
        obtain rfl := Option.some.inj h
        dsimp only
        exact ev_iret dX11_set_72 rfl rfl
      refine ev_aload_n dX11_set_41 rfl (by decide) ?_
      refine ev_bipush dX11_set_42 (by decide) (by decide) ?_
      obtain ⟨v8, hc9, h⟩ := bind_of h
      refine ev_invV_v (k := (173 : Int)) (av := [(0, (-54 : Int))]) (st := []) (v := (0, v8.1)) (τ := v8.2) dX11_set_44 ml_X11_151 mv_X11_no (T := TX11) (ci := 10) rfl sp173 (by decide) (by decide) rfl ⟨Nat.le_of_ble_eq_true rfl, Nat.le_of_ble_eq_true rfl⟩ (Nat.le_of_ble_eq_true rfl) (c_X11_no hc9) ?_
      obtain rfl := Option.some.inj h
      dsimp only
      exact ev_iret dX11_set_47 rfl rfl
    refine ev_aload_n dX11_set_25 rfl (by decide) ?_
    refine ev_bipush dX11_set_26 (by decide) (by decide) ?_
    obtain ⟨v10, hc11, h⟩ := bind_of h
    refine ev_invV_v (k := (173 : Int)) (av := [(0, (-53 : Int))]) (st := []) (v := (0, v10.1)) (τ := v10.2) dX11_set_28 ml_X11_151 mv_X11_no (T := TX11) (ci := 10) rfl sp173 (by decide) (by decide) rfl ⟨Nat.le_of_ble_eq_true rfl, Nat.le_of_ble_eq_true rfl⟩ (Nat.le_of_ble_eq_true rfl) (c_X11_no hc11) ?_
    obtain rfl := Option.some.inj h
    dsimp only
    exact ev_iret dX11_set_31 rfl rfl
  refine ev_aload_n dX11_set_7 rfl (by decide) ?_
  refine ev_bipush dX11_set_8 (by decide) (by decide) ?_
  obtain ⟨v12, hc13, h⟩ := bind_of h
  refine ev_invV_v (k := (173 : Int)) (av := [(0, (-52 : Int))]) (st := []) (v := (0, v12.1)) (τ := v12.2) dX11_set_10 ml_X11_151 mv_X11_no (T := TX11) (ci := 10) rfl sp173 (by decide) (by decide) rfl ⟨Nat.le_of_ble_eq_true rfl, Nat.le_of_ble_eq_true rfl⟩ (Nat.le_of_ble_eq_true rfl) (c_X11_no hc13) ?_
  obtain rfl := Option.some.inj h
  dsimp only
  exact ev_iret dX11_set_13 rfl rfl
def K_X11_copy_196 (x2 x4 x5 : Int) (r : Option V × Mem × Mem) : (Int × Mem) ⊕ ((Mem)) → Prop := Sum.elim (fun a => Ev M_X11_copy 210 210 r 196 210 rho a.2 [(2, (173 : Int)), (9, 0), (0, x2), (9, 0), (0, x4), (0, x5), (0, a.1)] []) (fun e => Ev M_X11_copy 210 210 r 231 210 rho e [(9, 0), (9, 0), (9, 0), (9, 0), (9, 0), (0, x5), (9, 0)] [])
def K_X11_copy_159 (x1 x2 x3 x4 x5 : Int) (r : Option V × Mem × Mem) : (Int × Mem) ⊕ ((Mem)) → Prop := Sum.elim (fun a => Ev M_X11_copy 210 210 r 159 210 rho a.2 [(2, (173 : Int)), (0, x1), (0, x2), (0, x3), (0, x4), (0, x5), (0, a.1)] []) (fun e => Ev M_X11_copy 210 210 r 193 210 rho e [(2, (173 : Int)), (9, 0), (0, x2), (9, 0), (0, x4), (0, x5), (9, 0)] [])
set_option maxHeartbeats 4000000 in
set_option maxRecDepth 20000 in
theorem e_X11_copy_14 (σ : Mem)  {q : (Int × Mem)} (h : f_X11_copy_14 σ  = some q) : Ev M_X11_copy 210 210 (some (0, q.1), rho, q.2) 14 210 rho σ [(2, (173 : Int)), (9, 0), (9, 0), (9, 0), (9, 0), (9, 0), (9, 0)] [] := by
  unfold f_X11_copy_14 at h
  refine ev_aload_n dX11_copy_14 rfl (by decide) ?_
  refine ev_bipush dX11_copy_15 (by decide) (by decide) ?_
  obtain ⟨v5, hc6, h⟩ := bind_of h
  refine ev_invV_v (k := (173 : Int)) (av := [(0, (-52 : Int))]) (st := []) (v := (0, v5.1)) (τ := v5.2) dX11_copy_17 ml_X11_151 mv_X11_no (T := TX11) (ci := 10) rfl sp173 (by decide) (by decide) rfl ⟨Nat.le_of_ble_eq_true rfl, Nat.le_of_ble_eq_true rfl⟩ (Nat.le_of_ble_eq_true rfl) (c_X11_no hc6) ?_
  obtain rfl := Option.some.inj h
  dsimp only
  exact ev_iret dX11_copy_20 rfl rfl
set_option maxHeartbeats 4000000 in
set_option maxRecDepth 20000 in
theorem e_X11_copy_76 (σ : Mem)  {q : (Int × Mem)} (h : f_X11_copy_76 σ  = some q) : Ev M_X11_copy 210 210 (some (0, q.1), rho, q.2) 76 210 rho σ [(2, (173 : Int)), (9, 0), (9, 0), (9, 0), (9, 0), (9, 0), (9, 0)] [] := by
  unfold f_X11_copy_76 at h
  refine ev_aload_n dX11_copy_76 rfl (by decide) ?_
  refine ev_bipush dX11_copy_77 (by decide) (by decide) ?_
  obtain ⟨v7, hc8, h⟩ := bind_of h
  refine ev_invV_v (k := (173 : Int)) (av := [(0, (-53 : Int))]) (st := []) (v := (0, v7.1)) (τ := v7.2) dX11_copy_79 ml_X11_151 mv_X11_no (T := TX11) (ci := 10) rfl sp173 (by decide) (by decide) rfl ⟨Nat.le_of_ble_eq_true rfl, Nat.le_of_ble_eq_true rfl⟩ (Nat.le_of_ble_eq_true rfl) (c_X11_no hc8) ?_
  obtain rfl := Option.some.inj h
  dsimp only
  exact ev_iret dX11_copy_82 rfl rfl
set_option maxHeartbeats 4000000 in
set_option maxRecDepth 20000 in
theorem e_X11_copy_101 (σ : Mem)  {q : (Int × Mem)} (h : f_X11_copy_101 σ  = some q) : Ev M_X11_copy 210 210 (some (0, q.1), rho, q.2) 101 210 rho σ [(2, (173 : Int)), (9, 0), (9, 0), (9, 0), (9, 0), (9, 0), (9, 0)] [] := by
  unfold f_X11_copy_101 at h
  refine ev_aload_n dX11_copy_101 rfl (by decide) ?_
  refine ev_bipush dX11_copy_102 (by decide) (by decide) ?_
  obtain ⟨v9, hc10, h⟩ := bind_of h
  refine ev_invV_v (k := (173 : Int)) (av := [(0, (-54 : Int))]) (st := []) (v := (0, v9.1)) (τ := v9.2) dX11_copy_104 ml_X11_151 mv_X11_no (T := TX11) (ci := 10) rfl sp173 (by decide) (by decide) rfl ⟨Nat.le_of_ble_eq_true rfl, Nat.le_of_ble_eq_true rfl⟩ (Nat.le_of_ble_eq_true rfl) (c_X11_no hc10) ?_
  obtain rfl := Option.some.inj h
  dsimp only
  exact ev_iret dX11_copy_107 rfl rfl
set_option maxHeartbeats 4000000 in
set_option maxRecDepth 20000 in
theorem e_X11_copy_149 (σ : Mem)  {q : (Int × Mem)} (h : f_X11_copy_149 σ  = some q) : Ev M_X11_copy 210 210 (some (0, q.1), rho, q.2) 149 210 rho σ [(2, (173 : Int)), (9, 0), (9, 0), (9, 0), (9, 0), (9, 0), (9, 0)] [] := by
  unfold f_X11_copy_149 at h
  refine ev_aload_n dX11_copy_149 rfl (by decide) ?_
  refine ev_bipush dX11_copy_150 (by decide) (by decide) ?_
  obtain ⟨v11, hc12, h⟩ := bind_of h
  refine ev_invV_v (k := (173 : Int)) (av := [(0, (-52 : Int))]) (st := []) (v := (0, v11.1)) (τ := v11.2) dX11_copy_152 ml_X11_151 mv_X11_no (T := TX11) (ci := 10) rfl sp173 (by decide) (by decide) rfl ⟨Nat.le_of_ble_eq_true rfl, Nat.le_of_ble_eq_true rfl⟩ (Nat.le_of_ble_eq_true rfl) (c_X11_no hc12) ?_
  obtain rfl := Option.some.inj h
  dsimp only
  exact ev_iret dX11_copy_155 rfl rfl
set_option maxHeartbeats 4000000 in
set_option maxRecDepth 20000 in
theorem b_X11_copy_196 (x2 x4 x5 : Int)  {r : Option V × Mem × Mem} : ∀ a x, f_X11_copy_196B x2 x4 x5 a = some x → K_X11_copy_196 x2 x4 x5 r x → K_X11_copy_196 x2 x4 x5 r (.inl a) := by
  intro a x h K
  obtain ⟨x6, σ⟩ := a
  have h : f_X11_copy_196C x2 x4 x5 x6 σ = some x := h
  unfold f_X11_copy_196C at h
  show Ev M_X11_copy 210 210 r 196 210 rho σ [(2, (173 : Int)), (9, 0), (0, x2), (9, 0), (0, x4), (0, x5), (0, x6)] []
  refine ev_iload dX11_copy_196 rfl ?_
  refine ev_iload dX11_copy_198 rfl ?_
  refine ev_icmp_ge (tgt := 231) dX11_copy_200 rfl h (fun cb h => ?_) (fun cb h => ?_)
  · obtain rfl := Option.some.inj h
    exact ev_sub (L2 := [(9, 0), (9, 0), (9, 0), (9, 0), (9, 0), (0, x5), (9, 0)]) K ⟨.inl rfl, .inl rfl, .inl rfl, .inl rfl, .inl rfl, .inr rfl, .inl rfl, trivial⟩
  refine ev_aload_n dX11_copy_203 rfl (by decide) ?_
  refine ev_getf (j := 6) (t := 2) (x := (179 : Int)) dX11_copy_204 cf_X11 wf_X11_25 sp173 (by decide) (by decide) rfl (by decide) (rp173_6 _) ?_
  refine ev_bipush dX11_copy_207 (by decide) (by decide) ?_
  refine ev_iload_n dX11_copy_209 rfl ?_
  refine ev_imul dX11_copy_210 ?_
  refine ev_iload dX11_copy_211 rfl ?_
  refine ev_iadd dX11_copy_213 ?_
  refine ev_iload dX11_copy_214 rfl ?_
  refine ev_iadd dX11_copy_216 ?_
  refine ev_aload_n dX11_copy_217 rfl (by decide) ?_
  refine ev_getf (j := 7) (t := 2) (x := (180 : Int)) dX11_copy_218 cf_X11 wf_X11_29 sp173 (by decide) (by decide) rfl (by decide) (rp173_7 _) ?_
  show Ev _ _ _ _ 221 _ _ _ _ _
  refine ev_iload dX11_copy_221 rfl ?_
  refine ev_lald dX11_copy_223 sp180 (by decide) (by decide) h (fun h => ?_)
  refine ev_lastG dX11_copy_224 sp179 (by decide) (by decide) h (fun σ15 h => ?_)
  refine ev_iincG dX11_copy_225 rfl h rfl (fun v16 h => ?_)
  show Ev _ _ _ _ 228 _ _ _ [(2, (173 : Int)), (9, 0), (0, x2), (9, 0), (0, x4), (0, x5), (0, v16)] _
  refine ev_goto (tgt := 196) dX11_copy_228 rfl ?_
  obtain rfl := Option.some.inj h
  exact ev_sub (L2 := [(2, (173 : Int)), (9, 0), (0, x2), (9, 0), (0, x4), (0, x5), (0, v16)]) K ⟨.inr rfl, .inl rfl, .inr rfl, .inl rfl, .inr rfl, .inr rfl, .inr rfl, trivial⟩
set_option maxHeartbeats 4000000 in
set_option maxRecDepth 20000 in
theorem e_X11_copy_196 (σ : Mem) (x2 x4 x5 x6 : Int)  {q : (Int × Mem)} (h : f_X11_copy_196 σ x2 x4 x5 x6 = some q) : Ev M_X11_copy 210 210 (some (0, q.1), rho, q.2) 196 210 rho σ [(2, (173 : Int)), (9, 0), (0, x2), (9, 0), (0, x4), (0, x5), (0, x6)] [] := by
  unfold f_X11_copy_196 at h
  obtain ⟨e, hl, h⟩ := bind_of h
  refine loop_ev (K := K_X11_copy_196 x2 x4 x5 (some (0, q.1), rho, q.2)) (b_X11_copy_196 x2 x4 x5) FU (x6, σ) e hl ?_
  show Ev M_X11_copy 210 210 _ 231 210 rho e [(9, 0), (9, 0), (9, 0), (9, 0), (9, 0), (0, x5), (9, 0)] []
  replace h : some (x5, e) = some q := h
  refine ev_iload dX11_copy_231 rfl ?_
  obtain rfl := Option.some.inj h
  dsimp only
  exact ev_iret dX11_copy_233 rfl rfl
set_option maxHeartbeats 4000000 in
set_option maxRecDepth 20000 in
theorem e_X11_copy_193 (σ : Mem) (x2 x4 x5 : Int)  {q : (Int × Mem)} (h : f_X11_copy_193 σ x2 x4 x5 = some q) : Ev M_X11_copy 210 210 (some (0, q.1), rho, q.2) 193 210 rho σ [(2, (173 : Int)), (9, 0), (0, x2), (9, 0), (0, x4), (0, x5), (9, 0)] [] := by
  unfold f_X11_copy_193 at h
  refine ev_iconst dX11_copy_193 (by decide) ?_
  refine ev_istore dX11_copy_194 rfl (by decide) ?_
  show Ev _ _ _ _ 196 _ _ _ [(2, (173 : Int)), (9, 0), (0, x2), (9, 0), (0, x4), (0, x5), (0, (0 : Int))] _
  exact ev_sub (L2 := [(2, (173 : Int)), (9, 0), (0, x2), (9, 0), (0, x4), (0, x5), (0, (0 : Int))]) (e_X11_copy_196 σ x2 x4 x5 (0 : Int) h) ⟨.inr rfl, .inl rfl, .inr rfl, .inl rfl, .inr rfl, .inr rfl, .inr rfl, trivial⟩
set_option maxHeartbeats 4000000 in
set_option maxRecDepth 20000 in
theorem b_X11_copy_159 (x1 x2 x3 x4 x5 : Int)  {r : Option V × Mem × Mem} : ∀ a x, f_X11_copy_159B x1 x2 x3 x4 x5 a = some x → K_X11_copy_159 x1 x2 x3 x4 x5 r x → K_X11_copy_159 x1 x2 x3 x4 x5 r (.inl a) := by
  intro a x h K
  obtain ⟨x6, σ⟩ := a
  have h : f_X11_copy_159C x1 x2 x3 x4 x5 x6 σ = some x := h
  unfold f_X11_copy_159C at h
  show Ev M_X11_copy 210 210 r 159 210 rho σ [(2, (173 : Int)), (0, x1), (0, x2), (0, x3), (0, x4), (0, x5), (0, x6)] []
  refine ev_iload dX11_copy_159 rfl ?_
  refine ev_iload dX11_copy_161 rfl ?_
  refine ev_icmp_ge (tgt := 193) dX11_copy_163 rfl h (fun cb h => ?_) (fun cb h => ?_)
  · obtain rfl := Option.some.inj h
    exact ev_sub (L2 := [(2, (173 : Int)), (9, 0), (0, x2), (9, 0), (0, x4), (0, x5), (9, 0)]) K ⟨.inr rfl, .inl rfl, .inr rfl, .inl rfl, .inr rfl, .inr rfl, .inl rfl, trivial⟩
  refine ev_aload_n dX11_copy_166 rfl (by decide) ?_
  refine ev_getf (j := 7) (t := 2) (x := (180 : Int)) dX11_copy_167 cf_X11 wf_X11_29 sp173 (by decide) (by decide) rfl (by decide) (rp173_7 _) ?_
  refine ev_iload dX11_copy_170 rfl ?_
  refine ev_aload_n dX11_copy_172 rfl (by decide) ?_
  refine ev_getf (j := 6) (t := 2) (x := (179 : Int)) dX11_copy_173 cf_X11 wf_X11_25 sp173 (by decide) (by decide) rfl (by decide) (rp173_6 _) ?_
  refine ev_bipush dX11_copy_176 (by decide) (by decide) ?_
  refine ev_iload_n dX11_copy_178 rfl ?_
  refine ev_imul dX11_copy_179 ?_
  refine ev_iload_n dX11_copy_180 rfl ?_
  refine ev_iadd dX11_copy_181 ?_
  refine ev_iload dX11_copy_182 rfl ?_
  show Ev _ _ _ _ 184 _ _ _ _ _
  refine ev_iadd dX11_copy_184 ?_
  refine ev_lald dX11_copy_185 sp179 (by decide) (by decide) h (fun h => ?_)
  refine ev_lastG dX11_copy_186 sp180 (by decide) (by decide) h (fun σ13 h => ?_)
  refine ev_iincG dX11_copy_187 rfl h rfl (fun v14 h => ?_)
  show Ev _ _ _ _ 190 _ _ _ [(2, (173 : Int)), (0, x1), (0, x2), (0, x3), (0, x4), (0, x5), (0, v14)] _
  refine ev_goto (tgt := 159) dX11_copy_190 rfl ?_
  obtain rfl := Option.some.inj h
  exact ev_sub (L2 := [(2, (173 : Int)), (0, x1), (0, x2), (0, x3), (0, x4), (0, x5), (0, v14)]) K ⟨.inr rfl, .inr rfl, .inr rfl, .inr rfl, .inr rfl, .inr rfl, .inr rfl, trivial⟩
set_option maxHeartbeats 4000000 in
set_option maxRecDepth 20000 in
theorem e_X11_copy_159 (σ : Mem) (x1 x2 x3 x4 x5 x6 : Int)  {q : (Int × Mem)} (h : f_X11_copy_159 σ x1 x2 x3 x4 x5 x6 = some q) : Ev M_X11_copy 210 210 (some (0, q.1), rho, q.2) 159 210 rho σ [(2, (173 : Int)), (0, x1), (0, x2), (0, x3), (0, x4), (0, x5), (0, x6)] [] := by
  unfold f_X11_copy_159 at h
  obtain ⟨e, hl, h⟩ := bind_of h
  refine loop_ev (K := K_X11_copy_159 x1 x2 x3 x4 x5 (some (0, q.1), rho, q.2)) (b_X11_copy_159 x1 x2 x3 x4 x5) FU (x6, σ) e hl ?_
  show Ev M_X11_copy 210 210 _ 193 210 rho e [(2, (173 : Int)), (9, 0), (0, x2), (9, 0), (0, x4), (0, x5), (9, 0)] []
  replace h : f_X11_copy_193 e x2 x4 x5 = some q := h
  exact ev_sub (L2 := [(2, (173 : Int)), (9, 0), (0, x2), (9, 0), (0, x4), (0, x5), (9, 0)]) (e_X11_copy_193 e x2 x4 x5 h) ⟨.inr rfl, .inl rfl, .inr rfl, .inl rfl, .inr rfl, .inr rfl, .inl rfl, trivial⟩
set_option maxHeartbeats 4000000 in
set_option maxRecDepth 20000 in
theorem e_X11_copy_83 (σ : Mem) (x1 x2 x3 x4 x5 : Int)  {q : (Int × Mem)} (h : f_X11_copy_83 σ x1 x2 x3 x4 x5 = some q) : Ev M_X11_copy 210 210 (some (0, q.1), rho, q.2) 83 210 rho σ [(2, (173 : Int)), (0, x1), (0, x2), (0, x3), (0, x4), (0, x5), (9, 0)] [] := by
  unfold f_X11_copy_83 at h
  refine ev_aload_n dX11_copy_83 rfl (by decide) ?_
  refine ev_getf (j := 4) (t := 2) (x := (177 : Int)) dX11_copy_84 cf_X11 wf_X11_19 sp173 (by decide) (by decide) rfl (by decide) (rp173_4 _) ?_
  refine ev_iload_n dX11_copy_87 rfl ?_
  refine ev_iald dX11_copy_88 sp177 (by decide) (by decide) h (fun h => ?_)
  refine ev_if_lt (tgt := 101) dX11_copy_89 rfl h (fun cb h => ?_) (fun cb h => ?_)
  · exact ev_sub (L2 := [(2, (173 : Int)), (9, 0), (9, 0), (9, 0), (9, 0), (9, 0), (9, 0)]) (e_X11_copy_101 σ h) ⟨.inr rfl, .inl rfl, .inl rfl, .inl rfl, .inl rfl, .inl rfl, .inl rfl, trivial⟩
  refine ev_aload_n dX11_copy_92 rfl (by decide) ?_
  refine ev_getf (j := 4) (t := 2) (x := (177 : Int)) dX11_copy_93 cf_X11 wf_X11_19 sp173 (by decide) (by decide) rfl (by decide) (rp173_4 _) ?_
  refine ev_iload_n dX11_copy_96 rfl ?_
  refine ev_iald dX11_copy_97 sp177 (by decide) (by decide) h (fun h => ?_)
  refine ev_if_ge (tgt := 108) dX11_copy_98 rfl h (fun cb h => ?_) (fun cb h => ?_)
  · refine ev_iload_n dX11_copy_108 rfl ?_
    refine ev_if_lt (tgt := 149) dX11_copy_109 rfl h (fun cb h => ?_) (fun cb h => ?_)
    · exact ev_sub (L2 := [(2, (173 : Int)), (9, 0), (9, 0), (9, 0), (9, 0), (9, 0), (9, 0)]) (e_X11_copy_149 σ h) ⟨.inr rfl, .inl rfl, .inl rfl, .inl rfl, .inl rfl, .inl rfl, .inl rfl, trivial⟩
    refine ev_iload dX11_copy_112 rfl ?_
    refine ev_if_lt (tgt := 149) dX11_copy_114 rfl h (fun cb h => ?_) (fun cb h => ?_)
    · exact ev_sub (L2 := [(2, (173 : Int)), (9, 0), (9, 0), (9, 0), (9, 0), (9, 0), (9, 0)]) (e_X11_copy_149 σ h) ⟨.inr rfl, .inl rfl, .inl rfl, .inl rfl, .inl rfl, .inl rfl, .inl rfl, trivial⟩
    refine ev_iload dX11_copy_117 rfl ?_
    refine ev_if_lt (tgt := 149) dX11_copy_119 rfl h (fun cb h => ?_) (fun cb h => ?_)
    · exact ev_sub (L2 := [(2, (173 : Int)), (9, 0), (9, 0), (9, 0), (9, 0), (9, 0), (9, 0)]) (e_X11_copy_149 σ h) ⟨.inr rfl, .inl rfl, .inl rfl, .inl rfl, .inl rfl, .inl rfl, .inl rfl, trivial⟩
    refine ev_iload dX11_copy_122 rfl ?_
    refine ev_aload_n dX11_copy_124 rfl (by decide) ?_
    refine ev_getf (j := 5) (t := 2) (x := (178 : Int)) dX11_copy_125 cf_X11 wf_X11_22 sp173 (by decide) (by decide) rfl (by decide) (rp173_5 _) ?_
    refine ev_iload_n dX11_copy_128 rfl ?_
    refine ev_iald dX11_copy_129 sp178 (by decide) (by decide) h (fun h => ?_)
    refine ev_iload_n dX11_copy_130 rfl ?_
    refine ev_isub dX11_copy_131 ?_
    refine ev_icmp_gt (tgt := 149) dX11_copy_132 rfl h (fun cb h => ?_) (fun cb h => ?_)
    · exact ev_sub (L2 := [(2, (173 : Int)), (9, 0), (9, 0), (9, 0), (9, 0), (9, 0), (9, 0)]) (e_X11_copy_149 σ h) ⟨.inr rfl, .inl rfl, .inl rfl, .inl rfl, .inl rfl, .inl rfl, .inl rfl, trivial⟩
    refine ev_iload dX11_copy_135 rfl ?_
    refine ev_aload_n dX11_copy_137 rfl (by decide) ?_
    refine ev_getf (j := 5) (t := 2) (x := (178 : Int)) dX11_copy_138 cf_X11 wf_X11_22 sp173 (by decide) (by decide) rfl (by decide) (rp173_5 _) ?_
    refine ev_iload_n dX11_copy_141 rfl ?_
    refine ev_iald dX11_copy_142 sp178 (by decide) (by decide) h (fun h => ?_)
    refine ev_iload dX11_copy_143 rfl ?_
    refine ev_isub dX11_copy_145 ?_
    refine ev_icmp_le (tgt := 156) dX11_copy_146 rfl h (fun cb h => ?_) (fun cb h => ?_)
    · refine ev_iconst dX11_copy_156 (by decide) ?_
      refine ev_istore dX11_copy_157 rfl (by decide) ?_
      show Ev _ _ _ _ 159 _ _ _ [(2, (173 : Int)), (0, x1), (0, x2), (0, x3), (0, x4), (0, x5), (0, (0 : Int))] _
      exact ev_sub (L2 := [(2, (173 : Int)), (0, x1), (0, x2), (0, x3), (0, x4), (0, x5), (0, (0 : Int))]) (e_X11_copy_159 σ x1 x2 x3 x4 x5 (0 : Int) h) ⟨.inr rfl, .inr rfl, .inr rfl, .inr rfl, .inr rfl, .inr rfl, .inr rfl, trivial⟩
    exact ev_sub (L2 := [(2, (173 : Int)), (9, 0), (9, 0), (9, 0), (9, 0), (9, 0), (9, 0)]) (e_X11_copy_149 σ h) ⟨.inr rfl, .inl rfl, .inl rfl, .inl rfl, .inl rfl, .inl rfl, .inl rfl, trivial⟩
  exact ev_sub (L2 := [(2, (173 : Int)), (9, 0), (9, 0), (9, 0), (9, 0), (9, 0), (9, 0)]) (e_X11_copy_101 σ h) ⟨.inr rfl, .inl rfl, .inl rfl, .inl rfl, .inl rfl, .inl rfl, .inl rfl, trivial⟩
set_option maxHeartbeats 4000000 in
set_option maxRecDepth 20000 in
theorem c_X11_copy {σ : Mem} {x1 x2 x3 x4 x5 : Int}  {q : (Int × Mem)} (h : f_X11_copy σ x1 x2 x3 x4 x5 = some q) : Ms yX11_copy M_X11_copy 210 210 [(2, (173 : Int)), (0, x1), (0, x2), (0, x3), (0, x4), (0, x5)] rho σ (some (0, q.1), rho, q.2) := by
  refine Ms.of 1 (by decide +kernel) rfl (fun z => absurd z (by decide)) (fun _ _ _ => trivial) rfl rfl ?_
  unfold f_X11_copy at h
  show Ev M_X11_copy 210 210 _ 0 210 rho σ [(2, (173 : Int)), (0, x1), (0, x2), (0, x3), (0, x4), (0, x5), (9, 0)] []
  refine ev_iload_n dX11_copy_0 rfl ?_
  obtain ⟨v1, hc2, h⟩ := bind_of h
  refine ev_invS_v (av := [(0, x1)]) (st := []) (v := (0, v1)) (τ := σ) dX11_copy_1 ml_X11_145 mt_X11_isShelf rfl ⟨Nat.le_of_ble_eq_true rfl, Nat.le_of_ble_eq_true rfl⟩ (Nat.le_of_ble_eq_true rfl) (c_X11_isShelf hc2) ?_
  refine ev_if_eq (tgt := 14) dX11_copy_4 rfl h (fun cb h => ?_) (fun cb h => ?_)
  · exact ev_sub (L2 := [(2, (173 : Int)), (9, 0), (9, 0), (9, 0), (9, 0), (9, 0), (9, 0)]) (e_X11_copy_14 σ h) ⟨.inr rfl, .inl rfl, .inl rfl, .inl rfl, .inl rfl, .inl rfl, .inl rfl, trivial⟩
  refine ev_iload_n dX11_copy_7 rfl ?_
  obtain ⟨v3, hc4, h⟩ := bind_of h
  refine ev_invS_v (av := [(0, x2)]) (st := []) (v := (0, v3)) (τ := σ) dX11_copy_8 ml_X11_145 mt_X11_isShelf rfl ⟨Nat.le_of_ble_eq_true rfl, Nat.le_of_ble_eq_true rfl⟩ (Nat.le_of_ble_eq_true rfl) (c_X11_isShelf hc4) ?_
  refine ev_if_ne (tgt := 21) dX11_copy_11 rfl h (fun cb h => ?_) (fun cb h => ?_)
  · refine ev_aload_n dX11_copy_21 rfl (by decide) ?_
    refine ev_getf (j := 4) (t := 2) (x := (177 : Int)) dX11_copy_22 cf_X11 wf_X11_19 sp173 (by decide) (by decide) rfl (by decide) (rp173_4 _) ?_
    refine ev_iload_n dX11_copy_25 rfl ?_
    refine ev_iald dX11_copy_26 sp177 (by decide) (by decide) h (fun h => ?_)
    refine ev_bipush dX11_copy_27 (by decide) (by decide) ?_
    refine ev_icmp_ge (tgt := 76) dX11_copy_29 rfl h (fun cb h => ?_) (fun cb h => ?_)
    · exact ev_sub (L2 := [(2, (173 : Int)), (9, 0), (9, 0), (9, 0), (9, 0), (9, 0), (9, 0)]) (e_X11_copy_76 σ h) ⟨.inr rfl, .inl rfl, .inl rfl, .inl rfl, .inl rfl, .inl rfl, .inl rfl, trivial⟩
    refine ev_aload_n dX11_copy_32 rfl (by decide) ?_
    refine ev_getf (j := 4) (t := 2) (x := (177 : Int)) dX11_copy_33 cf_X11 wf_X11_19 sp173 (by decide) (by decide) rfl (by decide) (rp173_4 _) ?_
    refine ev_iload_n dX11_copy_36 rfl ?_
    refine ev_iald dX11_copy_37 sp177 (by decide) (by decide) h (fun h => ?_)
    refine ev_bipush dX11_copy_38 (by decide) (by decide) ?_
    refine ev_icmp_ge (tgt := 76) dX11_copy_40 rfl h (fun cb h => ?_) (fun cb h => ?_)
    · exact ev_sub (L2 := [(2, (173 : Int)), (9, 0), (9, 0), (9, 0), (9, 0), (9, 0), (9, 0)]) (e_X11_copy_76 σ h) ⟨.inr rfl, .inl rfl, .inl rfl, .inl rfl, .inl rfl, .inl rfl, .inl rfl, trivial⟩
    refine ev_aload_n dX11_copy_43 rfl (by decide) ?_
    refine ev_getf (j := 4) (t := 2) (x := (177 : Int)) dX11_copy_44 cf_X11 wf_X11_19 sp173 (by decide) (by decide) rfl (by decide) (rp173_4 _) ?_
    refine ev_iload_n dX11_copy_47 rfl ?_
    refine ev_iald dX11_copy_48 sp177 (by decide) (by decide) h (fun h => ?_)
    refine ev_if_lt (tgt := 83) dX11_copy_49 rfl h (fun cb h => ?_) (fun cb h => ?_)
    · exact ev_sub (L2 := [(2, (173 : Int)), (0, x1), (0, x2), (0, x3), (0, x4), (0, x5), (9, 0)]) (e_X11_copy_83 σ x1 x2 x3 x4 x5 h) ⟨.inr rfl, .inr rfl, .inr rfl, .inr rfl, .inr rfl, .inr rfl, .inl rfl, trivial⟩
    refine ev_aload_n dX11_copy_52 rfl (by decide) ?_
    refine ev_getf (j := 4) (t := 2) (x := (177 : Int)) dX11_copy_53 cf_X11 wf_X11_19 sp173 (by decide) (by decide) rfl (by decide) (rp173_4 _) ?_
    refine ev_iload_n dX11_copy_56 rfl ?_
    refine ev_iald dX11_copy_57 sp177 (by decide) (by decide) h (fun h => ?_)
    refine ev_if_lt (tgt := 83) dX11_copy_58 rfl h (fun cb h => ?_) (fun cb h => ?_)
    · exact ev_sub (L2 := [(2, (173 : Int)), (0, x1), (0, x2), (0, x3), (0, x4), (0, x5), (9, 0)]) (e_X11_copy_83 σ x1 x2 x3 x4 x5 h) ⟨.inr rfl, .inr rfl, .inr rfl, .inr rfl, .inr rfl, .inr rfl, .inl rfl, trivial⟩
    refine ev_aload_n dX11_copy_61 rfl (by decide) ?_
    refine ev_getf (j := 4) (t := 2) (x := (177 : Int)) dX11_copy_62 cf_X11 wf_X11_19 sp173 (by decide) (by decide) rfl (by decide) (rp173_4 _) ?_
    refine ev_iload_n dX11_copy_65 rfl ?_
    refine ev_iald dX11_copy_66 sp177 (by decide) (by decide) h (fun h => ?_)
    refine ev_aload_n dX11_copy_67 rfl (by decide) ?_
    refine ev_getf (j := 4) (t := 2) (x := (177 : Int)) dX11_copy_68 cf_X11 wf_X11_19 sp173 (by decide) (by decide) rfl (by decide) (rp173_4 _) ?_
    refine ev_iload_n dX11_copy_71 rfl ?_
    refine ev_iald dX11_copy_72 sp177 (by decide) (by decide) h (fun h => ?_)
    refine ev_icmp_eq (tgt := 83) dX11_copy_73 rfl h (fun cb h => ?_) (fun cb h => ?_)
    · exact ev_sub (L2 := [(2, (173 : Int)), (0, x1), (0, x2), (0, x3), (0, x4), (0, x5), (9, 0)]) (e_X11_copy_83 σ x1 x2 x3 x4 x5 h) ⟨.inr rfl, .inr rfl, .inr rfl, .inr rfl, .inr rfl, .inr rfl, .inl rfl, trivial⟩
    exact ev_sub (L2 := [(2, (173 : Int)), (9, 0), (9, 0), (9, 0), (9, 0), (9, 0), (9, 0)]) (e_X11_copy_76 σ h) ⟨.inr rfl, .inl rfl, .inl rfl, .inl rfl, .inl rfl, .inl rfl, .inl rfl, trivial⟩
  exact ev_sub (L2 := [(2, (173 : Int)), (9, 0), (9, 0), (9, 0), (9, 0), (9, 0), (9, 0)]) (e_X11_copy_14 σ h) ⟨.inr rfl, .inl rfl, .inl rfl, .inl rfl, .inl rfl, .inl rfl, .inl rfl, trivial⟩
set_option maxHeartbeats 4000000 in
set_option maxRecDepth 20000 in
theorem c_X11_element {σ : Mem} {x1 x2 : Int}  {q : Int} (h : f_X11_element σ x1 x2 = some q) : Ms yX11_element M_X11_element 210 210 [(2, (173 : Int)), (0, x1), (0, x2)] rho σ (some (1, q), rho, σ) := by
  refine Ms.of 0 (by decide +kernel) rfl (fun z => absurd z (by decide)) (fun _ _ _ => trivial) rfl rfl ?_
  unfold f_X11_element at h
  show Ev M_X11_element 210 210 _ 0 210 rho σ [(2, (173 : Int)), (0, x1), (0, x2)] []
  refine ev_iload_n dX11_element_0 rfl ?_
  obtain ⟨v1, hc2, h⟩ := bind_of h
  refine ev_invS_v (av := [(0, x1)]) (st := []) (v := (0, v1)) (τ := σ) dX11_element_1 ml_X11_145 mt_X11_isShelf rfl ⟨Nat.le_of_ble_eq_true rfl, Nat.le_of_ble_eq_true rfl⟩ (Nat.le_of_ble_eq_true rfl) (c_X11_isShelf hc2) ?_
  refine ev_if_eq (tgt := 47) dX11_element_4 rfl h (fun cb h => ?_) (fun cb h => ?_)
  · refine ev_lconst (x := (0 : Int)) dX11_element_47 (by decide) (by decide) ?_
    obtain rfl := Option.some.inj h
    exact ev_lret dX11_element_48 rfl rfl
  refine ev_aload_n dX11_element_7 rfl (by decide) ?_
  refine ev_iload_n dX11_element_8 rfl ?_
  obtain ⟨v3, hc4, h⟩ := bind_of h
  refine ev_invV_v (k := (173 : Int)) (av := [(0, x1)]) (st := []) (v := (0, v3)) (τ := σ) dX11_element_9 ml_X11_154 mv_X11_isRow (T := TX11) (ci := 10) rfl sp173 (by decide) (by decide) rfl ⟨Nat.le_of_ble_eq_true rfl, Nat.le_of_ble_eq_true rfl⟩ (Nat.le_of_ble_eq_true rfl) (c_X11_isRow hc4) ?_
  refine ev_if_eq (tgt := 47) dX11_element_12 rfl h (fun cb h => ?_) (fun cb h => ?_)
  · refine ev_lconst (x := (0 : Int)) dX11_element_47 (by decide) (by decide) ?_
    obtain rfl := Option.some.inj h
    exact ev_lret dX11_element_48 rfl rfl
  refine ev_iload_n dX11_element_15 rfl ?_
  refine ev_i2lk dX11_element_16 ?_
  refine ev_lconst (x := (0 : Int)) dX11_element_17 (by decide) (by decide) ?_
  refine ev_aload_n dX11_element_18 rfl (by decide) ?_
  refine ev_getf (j := 5) (t := 2) (x := (178 : Int)) dX11_element_19 cf_X11 wf_X11_22 sp173 (by decide) (by decide) rfl (by decide) (rp173_5 _) ?_
  refine ev_iload_n dX11_element_22 rfl ?_
  refine ev_iald dX11_element_23 sp178 (by decide) (by decide) h (fun h => ?_)
  refine ev_iconst dX11_element_24 (by decide) ?_
  refine ev_isub dX11_element_25 ?_
  refine ev_i2lk dX11_element_26 ?_
  obtain ⟨v5, hc6, h⟩ := bind_of h
  refine ev_invS_v (av := [(1, x2), (1, (0 : Int)), (1, (jsub (σ (178 : Int) x1) (1 : Int)))]) (st := []) (v := (0, v5)) (τ := σ) dX11_element_27 ml_X11_120 mt_X11_isIn rfl ⟨Nat.le_of_ble_eq_true rfl, Nat.le_of_ble_eq_true rfl⟩ (Nat.le_of_ble_eq_true rfl) (c_X11_isIn hc6) ?_
  show Ev _ _ _ _ 30 _ _ _ _ _
  refine ev_if_eq (tgt := 47) dX11_element_30 rfl h (fun cb h => ?_) (fun cb h => ?_)
  · refine ev_lconst (x := (0 : Int)) dX11_element_47 (by decide) (by decide) ?_
    obtain rfl := Option.some.inj h
    exact ev_lret dX11_element_48 rfl rfl
  refine ev_aload_n dX11_element_33 rfl (by decide) ?_
  refine ev_getf (j := 6) (t := 2) (x := (179 : Int)) dX11_element_34 cf_X11 wf_X11_25 sp173 (by decide) (by decide) rfl (by decide) (rp173_6 _) ?_
  refine ev_bipush dX11_element_37 (by decide) (by decide) ?_
  refine ev_iload_n dX11_element_39 rfl ?_
  refine ev_imul dX11_element_40 ?_
  refine ev_iload_n dX11_element_41 rfl ?_
  refine ev_iadd dX11_element_42 ?_
  refine ev_lald dX11_element_43 sp179 (by decide) (by decide) h (fun h => ?_)
  refine ev_goto (tgt := 48) dX11_element_44 rfl ?_
  obtain rfl := Option.some.inj h
  exact ev_lret dX11_element_48 rfl rfl
set_option maxHeartbeats 4000000 in
set_option maxRecDepth 20000 in
theorem c_X11_holds {σ : Mem} {x1 : Int}  {q : Int} (h : f_X11_holds σ x1 = some q) : Ms yX11_holds M_X11_holds 210 210 [(2, (173 : Int)), (0, x1)] rho σ (some (0, q), rho, σ) := by
  refine Ms.of 0 (by decide +kernel) rfl (fun z => absurd z (by decide)) (fun _ _ _ => trivial) rfl rfl ?_
  unfold f_X11_holds at h
  show Ev M_X11_holds 210 210 _ 0 210 rho σ [(2, (173 : Int)), (0, x1)] []
  refine ev_iload_n dX11_holds_0 rfl ?_
  obtain ⟨v1, hc2, h⟩ := bind_of h
  refine ev_invS_v (av := [(0, x1)]) (st := []) (v := (0, v1)) (τ := σ) dX11_holds_1 ml_X11_145 mt_X11_isShelf rfl ⟨Nat.le_of_ble_eq_true rfl, Nat.le_of_ble_eq_true rfl⟩ (Nat.le_of_ble_eq_true rfl) (c_X11_isShelf hc2) ?_
  refine ev_if_eq (tgt := 16) dX11_holds_4 rfl h (fun cb h => ?_) (fun cb h => ?_)
  · refine ev_iconst dX11_holds_16 (by decide) ?_
    obtain rfl := Option.some.inj h
    exact ev_iret dX11_holds_17 rfl rfl
  refine ev_aload_n dX11_holds_7 rfl (by decide) ?_
  refine ev_getf (j := 4) (t := 2) (x := (177 : Int)) dX11_holds_8 cf_X11 wf_X11_19 sp173 (by decide) (by decide) rfl (by decide) (rp173_4 _) ?_
  refine ev_iload_n dX11_holds_11 rfl ?_
  refine ev_iald dX11_holds_12 sp177 (by decide) (by decide) h (fun h => ?_)
  refine ev_goto (tgt := 17) dX11_holds_13 rfl ?_
  obtain rfl := Option.some.inj h
  exact ev_iret dX11_holds_17 rfl rfl
