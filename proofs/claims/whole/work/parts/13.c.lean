set_option maxHeartbeats 4000000 in
set_option maxRecDepth 20000 in
theorem e_X10_turn_10 (σ : Mem)  {q : (Int × Mem)} (h : f_X10_turn_10 σ  = some q) : Ev M_X10_turn 218 218 (some (0, q.1), rho, q.2) 10 218 rho σ [(2, (0 : Int)), (9, 0), (9, 0)] [] := by
  unfold f_X10_turn_10 at h
  refine ev_aload_n dX10_turn_10 rfl (by decide) ?_
  refine ev_bipush dX10_turn_11 (by decide) (by decide) ?_
  obtain ⟨v5, hc6, h⟩ := bind_of h
  refine ev_invV_v (k := (0 : Int)) (av := [(0, (-52 : Int))]) (st := []) (v := (0, v5.1)) (τ := v5.2) dX10_turn_13 ml_X10_88 mv_X10_refuse (T := TX10) (ci := 9) rfl sp0 (by decide) (by decide) rfl ⟨Nat.le_of_ble_eq_true rfl, Nat.le_of_ble_eq_true rfl⟩ (Nat.le_of_ble_eq_true rfl) (c_X10_refuse hc6) ?_
  obtain rfl := Option.some.inj h
  dsimp only
  exact ev_iret dX10_turn_16 rfl rfl
set_option maxHeartbeats 4000000 in
set_option maxRecDepth 20000 in
theorem c_X10_turn {σ : Mem} {x1 : Int}  {q : (Int × Mem)} (h : f_X10_turn σ x1 = some q) : Ms yX10_turn M_X10_turn 218 218 [(2, (0 : Int)), (0, x1)] rho σ (some (0, q.1), rho, q.2) := by
  refine Ms.of 1 (by decide +kernel) rfl (fun z => absurd z (by decide)) (fun _ _ _ => trivial) rfl rfl ?_
  unfold f_X10_turn at h
  show Ev M_X10_turn 218 218 _ 0 218 rho σ [(2, (0 : Int)), (0, x1), (9, 0)] []
  refine ev_iload_n dX10_turn_0 rfl ?_
  refine ev_if_lt (tgt := 10) dX10_turn_1 rfl h (fun cb h => ?_) (fun cb h => ?_)
  · exact ev_sub (L2 := [(2, (0 : Int)), (9, 0), (9, 0)]) (e_X10_turn_10 σ h) ⟨.inr rfl, .inl rfl, .inl rfl, trivial⟩
  refine ev_iload_n dX10_turn_4 rfl ?_
  refine ev_bipush dX10_turn_5 (by decide) (by decide) ?_
  refine ev_icmp_le (tgt := 17) dX10_turn_7 rfl h (fun cb h => ?_) (fun cb h => ?_)
  · refine ev_aload_n dX10_turn_17 rfl (by decide) ?_
    refine ev_getf (j := 0) (t := 2) (x := (1 : Int)) dX10_turn_18 cf_X10 wf_X10_12 sp0 (by decide) (by decide) rfl (by decide) (rp0_0 _) ?_
    refine ev_getf (j := 12) (t := 0) (x := (σ (1 : Int) 12)) dX10_turn_21 cf_X0 wf_X10_212 sp1 (by decide) (by decide) rfl (by decide) rfl ?_
    refine ev_istore_nG dX10_turn_24 h rfl (by decide) (fun v1 h => ?_)
    show Ev _ _ _ _ 25 _ _ _ [(2, (0 : Int)), (0, x1), (0, v1)] _
    refine ev_aload_n dX10_turn_25 rfl (by decide) ?_
    refine ev_getf (j := 0) (t := 2) (x := (1 : Int)) dX10_turn_26 cf_X10 wf_X10_12 sp0 (by decide) (by decide) rfl (by decide) (rp0_0 _) ?_
    refine ev_iload_n dX10_turn_29 rfl ?_
    refine ev_putfG (j := 12) (t := 0) dX10_turn_30 cf_X0 wf_X10_212 sp1 (by decide) (by decide) rfl (by decide) (by decide) rfl (fun z => absurd z (by decide +kernel)) h (fun σ2 h => ?_)
    refine ev_aload_n dX10_turn_33 rfl (by decide) ?_
    refine ev_getf (j := 8) (t := 2) (x := (43 : Int)) dX10_turn_34 cf_X10 wf_X10_50 sp0 (by decide) (by decide) rfl (by decide) (rp0_8 _) ?_
    obtain ⟨σ3, hc4, h⟩ := bind_of h
    refine ev_invV_n (k := (43 : Int)) (av := []) (st := []) (τ := σ3) dX10_turn_37 ml_X10_203 mv_X9_forgetOthers (T := TX9) (ci := 8) rfl sp43 (by decide) (by decide) rfl ⟨Nat.le_of_ble_eq_true rfl, Nat.le_of_ble_eq_true rfl⟩ (Nat.le_of_ble_eq_true rfl) (c_X9_forgetOthers hc4) ?_
    show Ev _ _ _ _ 40 _ _ _ _ _
    refine ev_iload_n dX10_turn_40 rfl ?_
    obtain rfl := Option.some.inj h
    dsimp only
    exact ev_iret dX10_turn_41 rfl rfl
  exact ev_sub (L2 := [(2, (0 : Int)), (9, 0), (9, 0)]) (e_X10_turn_10 σ h) ⟨.inr rfl, .inl rfl, .inl rfl, trivial⟩
set_option maxHeartbeats 4000000 in
set_option maxRecDepth 20000 in
theorem e_X10_feed_11 (σ : Mem)  {q : (Int × Mem)} (h : f_X10_feed_11 σ  = some q) : Ev M_X10_feed 218 218 (some (0, q.1), rho, q.2) 11 218 rho σ [(2, (0 : Int)), (9, 0)] [] := by
  unfold f_X10_feed_11 at h
  refine ev_aload_n dX10_feed_11 rfl (by decide) ?_
  refine ev_bipush dX10_feed_12 (by decide) (by decide) ?_
  obtain ⟨v7, hc8, h⟩ := bind_of h
  refine ev_invV_v (k := (0 : Int)) (av := [(0, (-52 : Int))]) (st := []) (v := (0, v7.1)) (τ := v7.2) dX10_feed_14 ml_X10_88 mv_X10_refuse (T := TX10) (ci := 9) rfl sp0 (by decide) (by decide) rfl ⟨Nat.le_of_ble_eq_true rfl, Nat.le_of_ble_eq_true rfl⟩ (Nat.le_of_ble_eq_true rfl) (c_X10_refuse hc8) ?_
  obtain rfl := Option.some.inj h
  dsimp only
  exact ev_iret dX10_feed_17 rfl rfl
set_option maxHeartbeats 4000000 in
set_option maxRecDepth 20000 in
theorem c_X10_feed {σ : Mem} {x1 : Int}  {q : (Int × Mem)} (h : f_X10_feed σ x1 = some q) : Ms yX10_feed M_X10_feed 218 218 [(2, (0 : Int)), (0, x1)] rho σ (some (0, q.1), rho, q.2) := by
  refine Ms.of 0 (by decide +kernel) rfl (fun z => absurd z (by decide)) (fun _ _ _ => trivial) rfl rfl ?_
  unfold f_X10_feed at h
  show Ev M_X10_feed 218 218 _ 0 218 rho σ [(2, (0 : Int)), (0, x1)] []
  refine ev_iload_n dX10_feed_0 rfl ?_
  refine ev_if_lt (tgt := 11) dX10_feed_1 rfl h (fun cb h => ?_) (fun cb h => ?_)
  · exact ev_sub (L2 := [(2, (0 : Int)), (9, 0)]) (e_X10_feed_11 σ h) ⟨.inr rfl, .inl rfl, trivial⟩
  refine ev_iload_n dX10_feed_4 rfl ?_
  refine ev_sipush dX10_feed_5 (by decide) (by decide) ?_
  refine ev_icmp_le (tgt := 18) dX10_feed_8 rfl h (fun cb h => ?_) (fun cb h => ?_)
  · refine ev_aload_n dX10_feed_18 rfl (by decide) ?_
    refine ev_getf (j := 4) (t := 2) (x := (28 : Int)) dX10_feed_19 cf_X10 wf_X10_25 sp0 (by decide) (by decide) rfl (by decide) (rp0_4 _) ?_
    obtain ⟨v1, hc2, h⟩ := bind_of h
    refine ev_invV_v (k := (28 : Int)) (av := []) (st := []) (v := (0, v1)) (τ := σ) dX10_feed_22 ml_X10_215 mv_X7_isFull (T := TX7) (ci := 6) rfl sp28 (by decide) (by decide) rfl ⟨Nat.le_of_ble_eq_true rfl, Nat.le_of_ble_eq_true rfl⟩ (Nat.le_of_ble_eq_true rfl) (c_X7_isFull hc2) ?_
    refine ev_if_eq (tgt := 35) dX10_feed_25 rfl h (fun cb h => ?_) (fun cb h => ?_)
    · refine ev_aload_n dX10_feed_35 rfl (by decide) ?_
      refine ev_getf (j := 4) (t := 2) (x := (28 : Int)) dX10_feed_36 cf_X10 wf_X10_25 sp0 (by decide) (by decide) rfl (by decide) (rp0_4 _) ?_
      refine ev_iload_n dX10_feed_39 rfl ?_
      obtain ⟨v3, hc4, h⟩ := bind_of h
      refine ev_invV_v (k := (28 : Int)) (av := [(0, x1)]) (st := []) (v := (0, v3.1)) (τ := v3.2) dX10_feed_40 ml_X10_219 mv_X7_append (T := TX7) (ci := 6) rfl sp28 (by decide) (by decide) rfl ⟨Nat.le_of_ble_eq_true rfl, Nat.le_of_ble_eq_true rfl⟩ (Nat.le_of_ble_eq_true rfl) (c_X7_append hc4) ?_
      obtain rfl := Option.some.inj h
      dsimp only
      exact ev_iret dX10_feed_43 rfl rfl
    refine ev_aload_n dX10_feed_28 rfl (by decide) ?_
    refine ev_bipush dX10_feed_29 (by decide) (by decide) ?_
    obtain ⟨v5, hc6, h⟩ := bind_of h
    refine ev_invV_v (k := (0 : Int)) (av := [(0, (-56 : Int))]) (st := []) (v := (0, v5.1)) (τ := v5.2) dX10_feed_31 ml_X10_88 mv_X10_refuse (T := TX10) (ci := 9) rfl sp0 (by decide) (by decide) rfl ⟨Nat.le_of_ble_eq_true rfl, Nat.le_of_ble_eq_true rfl⟩ (Nat.le_of_ble_eq_true rfl) (c_X10_refuse hc6) ?_
    obtain rfl := Option.some.inj h
    dsimp only
    exact ev_iret dX10_feed_34 rfl rfl
  exact ev_sub (L2 := [(2, (0 : Int)), (9, 0)]) (e_X10_feed_11 σ h) ⟨.inr rfl, .inl rfl, trivial⟩
set_option maxHeartbeats 4000000 in
set_option maxRecDepth 20000 in
theorem c_X10_wipe {σ : Mem}  {q : (Int × Mem)} (h : f_X10_wipe σ  = some q) : Ms yX10_wipe M_X10_wipe 218 218 [(2, (0 : Int))] rho σ (some (0, q.1), rho, q.2) := by
  refine Ms.of 0 (by decide +kernel) rfl (fun z => absurd z (by decide)) (fun _ _ _ => trivial) rfl rfl ?_
  unfold f_X10_wipe at h
  show Ev M_X10_wipe 218 218 _ 0 218 rho σ [(2, (0 : Int))] []
  refine ev_aload_n dX10_wipe_0 rfl (by decide) ?_
  refine ev_getf (j := 4) (t := 2) (x := (28 : Int)) dX10_wipe_1 cf_X10 wf_X10_25 sp0 (by decide) (by decide) rfl (by decide) (rp0_4 _) ?_
  obtain ⟨v1, hc2, h⟩ := bind_of h
  refine ev_invV_v (k := (28 : Int)) (av := []) (st := []) (v := (0, v1.1)) (τ := v1.2) dX10_wipe_4 ml_X10_222 mv_X7_clear (T := TX7) (ci := 6) rfl sp28 (by decide) (by decide) rfl ⟨Nat.le_of_ble_eq_true rfl, Nat.le_of_ble_eq_true rfl⟩ (Nat.le_of_ble_eq_true rfl) (c_X7_clear hc2) ?_
  obtain rfl := Option.some.inj h
  dsimp only
  exact ev_iret dX10_wipe_7 rfl rfl
set_option maxHeartbeats 4000000 in
set_option maxRecDepth 20000 in
theorem c_X10_book {σ : Mem}  {q : (Int × Mem)} (h : f_X10_book σ  = some q) : Ms yX10_book M_X10_book 218 218 [(2, (0 : Int))] rho σ (some (0, q.1), rho, q.2) := by
  refine Ms.of 1 (by decide +kernel) rfl (fun z => absurd z (by decide)) (fun _ _ _ => trivial) rfl rfl ?_
  unfold f_X10_book at h
  show Ev M_X10_book 218 218 _ 0 218 rho σ [(2, (0 : Int)), (9, 0)] []
  refine ev_aload_n dX10_book_0 rfl (by decide) ?_
  refine ev_getf (j := 1) (t := 2) (x := (10 : Int)) dX10_book_1 cf_X10 wf_X10_16 sp0 (by decide) (by decide) rfl (by decide) (rp0_1 _) ?_
  refine ev_aload_n dX10_book_4 rfl (by decide) ?_
  refine ev_getf (j := 0) (t := 2) (x := (1 : Int)) dX10_book_5 cf_X10 wf_X10_12 sp0 (by decide) (by decide) rfl (by decide) (rp0_0 _) ?_
  obtain ⟨σ1, hc2, h⟩ := bind_of h
  refine ev_invV_n (k := (10 : Int)) (av := [(2, (1 : Int))]) (st := []) (τ := σ1) dX10_book_8 ml_X10_226 mv_X0_become (T := TX0) (ci := 0) rfl sp10 (by decide) (by decide) rfl ⟨Nat.le_of_ble_eq_true rfl, Nat.le_of_ble_eq_true rfl⟩ (Nat.le_of_ble_eq_true rfl) (c_X0_become hB10 hB1 hc2) ?_
  refine ev_aload_n dX10_book_11 rfl (by decide) ?_
  refine ev_getf (j := 4) (t := 2) (x := (28 : Int)) dX10_book_12 cf_X10 wf_X10_25 sp0 (by decide) (by decide) rfl (by decide) (rp0_4 _) ?_
  refine ev_aload_n dX10_book_15 rfl (by decide) ?_
  refine ev_getf (j := 1) (t := 2) (x := (10 : Int)) dX10_book_16 cf_X10 wf_X10_16 sp0 (by decide) (by decide) rfl (by decide) (rp0_1 _) ?_
  obtain ⟨v3, hc4, h⟩ := bind_of h
  refine ev_invV_v (k := (28 : Int)) (av := [(2, (10 : Int))]) (st := []) (v := (0, v3.1)) (τ := v3.2) dX10_book_19 ml_X10_230 mv_X7_readInto (T := TX7) (ci := 6) rfl sp28 (by decide) (by decide) rfl ⟨Nat.le_of_ble_eq_true rfl, Nat.le_of_ble_eq_true rfl⟩ (Nat.le_of_ble_eq_true rfl) (c_X7_readInto hc4) ?_
  refine ev_istore_nG dX10_book_22 h rfl (by decide) (fun v5 h => ?_)
  show Ev _ _ _ _ 23 _ _ _ [(2, (0 : Int)), (0, v5)] _
  show Ev _ _ _ _ 23 _ _ _ _ _
  refine ev_aload_n dX10_book_23 rfl (by decide) ?_
  refine ev_getf (j := 4) (t := 2) (x := (28 : Int)) dX10_book_24 cf_X10 wf_X10_25 sp0 (by decide) (by decide) rfl (by decide) (rp0_4 _) ?_
  obtain ⟨v6, hc7, h⟩ := bind_of h
  refine ev_invV_v (k := (28 : Int)) (av := []) (st := []) (v := (0, v6.1)) (τ := v6.2) dX10_book_27 ml_X10_222 mv_X7_clear (T := TX7) (ci := 6) rfl sp28 (by decide) (by decide) rfl ⟨Nat.le_of_ble_eq_true rfl, Nat.le_of_ble_eq_true rfl⟩ (Nat.le_of_ble_eq_true rfl) (c_X7_clear hc7) ?_
  refine ev_pop dX10_book_30 (show (0 : Nat) ≠ 1 by decide) ?_
  refine ev_iload_n dX10_book_31 rfl ?_
  refine ev_iconst dX10_book_32 (by decide) ?_
  refine ev_icmp_ne (tgt := 55) dX10_book_33 rfl h (fun cb h => ?_) (fun cb h => ?_)
  · refine ev_aload_n dX10_book_55 rfl (by decide) ?_
    refine ev_getf (j := 0) (t := 2) (x := (1 : Int)) dX10_book_56 cf_X10 wf_X10_12 sp0 (by decide) (by decide) rfl (by decide) (rp0_0 _) ?_
    refine ev_aload_n dX10_book_59 rfl (by decide) ?_
    refine ev_getf (j := 1) (t := 2) (x := (10 : Int)) dX10_book_60 cf_X10 wf_X10_16 sp0 (by decide) (by decide) rfl (by decide) (rp0_1 _) ?_
    obtain ⟨σ8, hc9, h⟩ := bind_of h
    refine ev_invV_n (k := (1 : Int)) (av := [(2, (10 : Int))]) (st := []) (τ := σ8) dX10_book_63 ml_X10_226 mv_X0_become (T := TX0) (ci := 0) rfl sp1 (by decide) (by decide) rfl ⟨Nat.le_of_ble_eq_true rfl, Nat.le_of_ble_eq_true rfl⟩ (Nat.le_of_ble_eq_true rfl) (c_X0_become hB1 hB10 hc9) ?_
    refine ev_aload_n dX10_book_66 rfl (by decide) ?_
    refine ev_getf (j := 8) (t := 2) (x := (43 : Int)) dX10_book_67 cf_X10 wf_X10_50 sp0 (by decide) (by decide) rfl (by decide) (rp0_8 _) ?_
    obtain ⟨σ10, hc11, h⟩ := bind_of h
    refine ev_invV_n (k := (43 : Int)) (av := []) (st := []) (τ := σ10) dX10_book_70 ml_X10_171 mv_X9_forgetAll (T := TX9) (ci := 8) rfl sp43 (by decide) (by decide) rfl ⟨Nat.le_of_ble_eq_true rfl, Nat.le_of_ble_eq_true rfl⟩ (Nat.le_of_ble_eq_true rfl) (c_X9_forgetAll hc11) ?_
    refine ev_iload_n dX10_book_73 rfl ?_
    obtain rfl := Option.some.inj h
    dsimp only
    exact ev_iret dX10_book_74 rfl rfl
  refine ev_aload_n dX10_book_36 rfl (by decide) ?_
  refine ev_bipush dX10_book_37 (by decide) (by decide) ?_
  obtain ⟨v12, hc13, h⟩ := bind_of h
  refine ev_invV_v (k := (0 : Int)) (av := [(0, (-52 : Int))]) (st := []) (v := (0, v12.1)) (τ := v12.2) dX10_book_39 ml_X10_88 mv_X10_refuse (T := TX10) (ci := 9) rfl sp0 (by decide) (by decide) rfl ⟨Nat.le_of_ble_eq_true rfl, Nat.le_of_ble_eq_true rfl⟩ (Nat.le_of_ble_eq_true rfl) (c_X10_refuse hc13) ?_
  refine ev_pop dX10_book_42 (show (0 : Nat) ≠ 1 by decide) ?_
  refine ev_sipush dX10_book_43 (by decide) (by decide) ?_
  refine ev_aload_n dX10_book_46 rfl (by decide) ?_
  refine ev_getf (j := 4) (t := 2) (x := (28 : Int)) dX10_book_47 cf_X10 wf_X10_25 sp0 (by decide) (by decide) rfl (by decide) (rp0_4 _) ?_
  obtain ⟨v14, hc15, h⟩ := bind_of h
  refine ev_invV_v (k := (28 : Int)) (av := []) (st := [(0, (-600 : Int))]) (v := (0, v14)) (τ := v12.2) dX10_book_50 ml_X10_234 mv_X7_fault (T := TX7) (ci := 6) rfl sp28 (by decide) (by decide) rfl ⟨Nat.le_of_ble_eq_true rfl, Nat.le_of_ble_eq_true rfl⟩ (Nat.le_of_ble_eq_true rfl) (c_X7_fault hc15) ?_
  refine ev_isub dX10_book_53 ?_
  obtain rfl := Option.some.inj h
  dsimp only
  exact ev_iret dX10_book_54 rfl rfl
set_option maxHeartbeats 4000000 in
set_option maxRecDepth 20000 in
theorem c_X10_candOf {σ : Mem} {x1 x2 : Int}  {q : (Int × Mem)} (h : f_X10_candOf σ x1 x2 = some q) : Ms yX10_candOf M_X10_candOf 218 218 [(2, (0 : Int)), (0, x1), (0, x2)] rho σ (some (0, q.1), rho, q.2) := by
  refine Ms.of 0 (by decide +kernel) rfl (fun z => absurd z (by decide)) (fun _ _ _ => trivial) rfl rfl ?_
  unfold f_X10_candOf at h
  show Ev M_X10_candOf 218 218 _ 0 218 rho σ [(2, (0 : Int)), (0, x1), (0, x2)] []
  refine ev_aload_n dX10_candOf_0 rfl (by decide) ?_
  refine ev_getf (j := 0) (t := 2) (x := (1 : Int)) dX10_candOf_1 cf_X10 wf_X10_12 sp0 (by decide) (by decide) rfl (by decide) (rp0_0 _) ?_
  refine ev_iload_n dX10_candOf_4 rfl ?_
  obtain ⟨v1, hc2, h⟩ := bind_of h
  refine ev_invV_v (k := (1 : Int)) (av := [(0, x1)]) (st := []) (v := (0, v1)) (τ := σ) dX10_candOf_5 ml_X10_122 mv_X0_hasCand (T := TX0) (ci := 0) rfl sp1 (by decide) (by decide) rfl ⟨Nat.le_of_ble_eq_true rfl, Nat.le_of_ble_eq_true rfl⟩ (Nat.le_of_ble_eq_true rfl) (c_X0_hasCand hB1 hc2) ?_
  refine ev_if_ne (tgt := 18) dX10_candOf_8 rfl h (fun cb h => ?_) (fun cb h => ?_)
  · refine ev_iload_n dX10_candOf_18 rfl ?_
    refine ev_by h (fun cs h => ?_) (fun cs0 h => ?_)
    · refine ev_tswIn (off := 37) (tgt := 56) dX10_candOf_19 (by rw [cs]; decide) (by rw [cs]; decide) (by rw [cs]; rfl) rfl ?_
      refine ev_aload_n dX10_candOf_56 rfl (by decide) ?_
      refine ev_getf (j := 0) (t := 2) (x := (1 : Int)) dX10_candOf_57 cf_X10 wf_X10_12 sp0 (by decide) (by decide) rfl (by decide) (rp0_0 _) ?_
      refine ev_getf (j := 3) (t := 2) (x := (5 : Int)) dX10_candOf_60 cf_X0 wf_X10_137 sp1 (by decide) (by decide) rfl (by decide) (rp1_3 _) ?_
      refine ev_iload_n dX10_candOf_63 rfl ?_
      refine ev_iald dX10_candOf_64 sp5 (by decide) (by decide) h (fun h => ?_)
      obtain rfl := Option.some.inj h
      dsimp only
      exact ev_iret dX10_candOf_65 rfl rfl
    refine ev_by h (fun cs h => ?_) (fun cs1 h => ?_)
    · refine ev_tswIn (off := 47) (tgt := 66) dX10_candOf_19 (by rw [cs]; decide) (by rw [cs]; decide) (by rw [cs]; rfl) rfl ?_
      refine ev_aload_n dX10_candOf_66 rfl (by decide) ?_
      refine ev_getf (j := 0) (t := 2) (x := (1 : Int)) dX10_candOf_67 cf_X10 wf_X10_12 sp0 (by decide) (by decide) rfl (by decide) (rp0_0 _) ?_
      refine ev_getf (j := 4) (t := 2) (x := (6 : Int)) dX10_candOf_70 cf_X0 wf_X10_143 sp1 (by decide) (by decide) rfl (by decide) (rp1_4 _) ?_
      refine ev_iload_n dX10_candOf_73 rfl ?_
      refine ev_iald dX10_candOf_74 sp6 (by decide) (by decide) h (fun h => ?_)
      obtain rfl := Option.some.inj h
      dsimp only
      exact ev_iret dX10_candOf_75 rfl rfl
    refine ev_by h (fun cs h => ?_) (fun cs2 h => ?_)
    · refine ev_tswIn (off := 57) (tgt := 76) dX10_candOf_19 (by rw [cs]; decide) (by rw [cs]; decide) (by rw [cs]; rfl) rfl ?_
      refine ev_aload_n dX10_candOf_76 rfl (by decide) ?_
      refine ev_getf (j := 0) (t := 2) (x := (1 : Int)) dX10_candOf_77 cf_X10 wf_X10_12 sp0 (by decide) (by decide) rfl (by decide) (rp0_0 _) ?_
      refine ev_getf (j := 5) (t := 2) (x := (7 : Int)) dX10_candOf_80 cf_X0 wf_X10_197 sp1 (by decide) (by decide) rfl (by decide) (rp1_5 _) ?_
      refine ev_iload_n dX10_candOf_83 rfl ?_
      refine ev_iald dX10_candOf_84 sp7 (by decide) (by decide) h (fun h => ?_)
      obtain rfl := Option.some.inj h
      dsimp only
      exact ev_iret dX10_candOf_85 rfl rfl
    refine ev_by h (fun cs h => ?_) (fun cs3 h => ?_)
    · refine ev_tswIn (off := 67) (tgt := 86) dX10_candOf_19 (by rw [cs]; decide) (by rw [cs]; decide) (by rw [cs]; rfl) rfl ?_
      refine ev_aload_n dX10_candOf_86 rfl (by decide) ?_
      refine ev_getf (j := 0) (t := 2) (x := (1 : Int)) dX10_candOf_87 cf_X10 wf_X10_12 sp0 (by decide) (by decide) rfl (by decide) (rp0_0 _) ?_
      refine ev_getf (j := 6) (t := 2) (x := (8 : Int)) dX10_candOf_90 cf_X0 wf_X10_237 sp1 (by decide) (by decide) rfl (by decide) (rp1_6 _) ?_
      refine ev_iload_n dX10_candOf_93 rfl ?_
      refine ev_iald dX10_candOf_94 sp8 (by decide) (by decide) h (fun h => ?_)
      obtain rfl := Option.some.inj h
      dsimp only
      exact ev_iret dX10_candOf_95 rfl rfl
    refine ev_by h (fun cs h => ?_) (fun cs4 h => ?_)
    · refine ev_tswIn (off := 77) (tgt := 96) dX10_candOf_19 (by rw [cs]; decide) (by rw [cs]; decide) (by rw [cs]; rfl) rfl ?_
      refine ev_aload_n dX10_candOf_96 rfl (by decide) ?_
      refine ev_getf (j := 0) (t := 2) (x := (1 : Int)) dX10_candOf_97 cf_X10 wf_X10_12 sp0 (by decide) (by decide) rfl (by decide) (rp0_0 _) ?_
      refine ev_iload_n dX10_candOf_100 rfl ?_
      obtain ⟨v3, hc4, h⟩ := bind_of h
      refine ev_invV_v (k := (1 : Int)) (av := [(0, x1)]) (st := []) (v := (0, v3)) (τ := σ) dX10_candOf_101 ml_X10_240 mv_X0_restFor (T := TX0) (ci := 0) rfl sp1 (by decide) (by decide) rfl ⟨Nat.le_of_ble_eq_true rfl, Nat.le_of_ble_eq_true rfl⟩ (Nat.le_of_ble_eq_true rfl) (c_X0_restFor hB1 hc4) ?_
      obtain rfl := Option.some.inj h
      dsimp only
      exact ev_iret dX10_candOf_104 rfl rfl
    refine ev_by h (fun cs h => ?_) (fun cs5 h => ?_)
    · refine ev_tswIn (off := 86) (tgt := 105) dX10_candOf_19 (by rw [cs]; decide) (by rw [cs]; decide) (by rw [cs]; rfl) rfl ?_
      refine ev_aload_n dX10_candOf_105 rfl (by decide) ?_
      refine ev_getf (j := 8) (t := 2) (x := (43 : Int)) dX10_candOf_106 cf_X10 wf_X10_50 sp0 (by decide) (by decide) rfl (by decide) (rp0_8 _) ?_
      refine ev_aload_n dX10_candOf_109 rfl (by decide) ?_
      refine ev_getf (j := 0) (t := 2) (x := (1 : Int)) dX10_candOf_110 cf_X10 wf_X10_12 sp0 (by decide) (by decide) rfl (by decide) (rp0_0 _) ?_
      refine ev_iload_n dX10_candOf_113 rfl ?_
      obtain ⟨v5, hc6, h⟩ := bind_of h
      refine ev_invV_v (k := (43 : Int)) (av := [(2, (1 : Int)), (0, x1)]) (st := []) (v := (2, v5.1)) (τ := v5.2) dX10_candOf_114 ml_X10_243 mv_X9_of (T := TX9) (ci := 8) rfl sp43 (by decide) (by decide) rfl ⟨Nat.le_of_ble_eq_true rfl, Nat.le_of_ble_eq_true rfl⟩ (Nat.le_of_ble_eq_true rfl) (c_X9_of hc6) ?_
      have hw7 := w_X9_of hc6
      obtain ⟨v8, hc9, h⟩ := bind_of h
      refine ev_invV_v (k := v5.1) (av := []) (st := []) (v := (0, v8)) (τ := v5.2) dX10_candOf_117 ml_X10_247 mv_X8_cants (T := TX8) (ci := 7) rfl (sW hw7) (pW hw7).1 (pW hw7).2 rfl ⟨Nat.le_of_ble_eq_true rfl, Nat.le_of_ble_eq_true rfl⟩ (Nat.le_of_ble_eq_true rfl) (c_X8_cants hw7 hc9) ?_
      obtain rfl := Option.some.inj h
      dsimp only
      exact ev_iret dX10_candOf_120 rfl rfl
    refine ev_tswOut (tgt := 121) dX10_candOf_19 (by omega) rfl ?_
    refine ev_aload_n dX10_candOf_121 rfl (by decide) ?_
    refine ev_bipush dX10_candOf_122 (by decide) (by decide) ?_
    obtain ⟨v10, hc11, h⟩ := bind_of h
    refine ev_invV_v (k := (0 : Int)) (av := [(0, (-52 : Int))]) (st := []) (v := (0, v10.1)) (τ := v10.2) dX10_candOf_124 ml_X10_88 mv_X10_refuse (T := TX10) (ci := 9) rfl sp0 (by decide) (by decide) rfl ⟨Nat.le_of_ble_eq_true rfl, Nat.le_of_ble_eq_true rfl⟩ (Nat.le_of_ble_eq_true rfl) (c_X10_refuse hc11) ?_
    obtain rfl := Option.some.inj h
    dsimp only
    exact ev_iret dX10_candOf_127 rfl rfl
  refine ev_aload_n dX10_candOf_11 rfl (by decide) ?_
  refine ev_bipush dX10_candOf_12 (by decide) (by decide) ?_
  obtain ⟨v12, hc13, h⟩ := bind_of h
  refine ev_invV_v (k := (0 : Int)) (av := [(0, (-52 : Int))]) (st := []) (v := (0, v12.1)) (τ := v12.2) dX10_candOf_14 ml_X10_88 mv_X10_refuse (T := TX10) (ci := 9) rfl sp0 (by decide) (by decide) rfl ⟨Nat.le_of_ble_eq_true rfl, Nat.le_of_ble_eq_true rfl⟩ (Nat.le_of_ble_eq_true rfl) (c_X10_refuse hc13) ?_
  obtain rfl := Option.some.inj h
  dsimp only
  exact ev_iret dX10_candOf_17 rfl rfl
def K_X10_takersOf_4 (σ : Mem) (x1 : Int) (r : Option V × Mem × Mem) : (Int × Int) ⊕ ((Int)) → Prop := Sum.elim (fun a => Ev M_X10_takersOf 218 218 r 4 218 rho σ [(2, (0 : Int)), (0, x1), (0, a.1), (0, a.2)] []) (fun e => Ev M_X10_takersOf 218 218 r 36 218 rho σ [(9, 0), (9, 0), (0, e), (9, 0)] [])
set_option maxHeartbeats 4000000 in
set_option maxRecDepth 20000 in
theorem e_X10_takersOf_30 (σ : Mem) (x1 x2 x3 : Int)  {q : ((Int × Int) ⊕ ((Int)))} (h : f_X10_takersOf_30 σ x1 x2 x3 = some q) {r : Option V × Mem × Mem} (K : K_X10_takersOf_4 σ x1 r q) : Ev M_X10_takersOf 218 218 r 30 218 rho σ [(2, (0 : Int)), (0, x1), (0, x2), (0, x3)] [] := by
  unfold f_X10_takersOf_30 at h
  refine ev_iincG dX10_takersOf_30 rfl h rfl (fun v4 h => ?_)
  show Ev _ _ _ _ 33 _ _ _ [(2, (0 : Int)), (0, x1), (0, x2), (0, v4)] _
  refine ev_goto (tgt := 4) dX10_takersOf_33 rfl ?_
  obtain rfl := Option.some.inj h
  exact ev_sub (L2 := [(2, (0 : Int)), (0, x1), (0, x2), (0, v4)]) K ⟨.inr rfl, .inr rfl, .inr rfl, .inr rfl, trivial⟩
set_option maxHeartbeats 4000000 in
set_option maxRecDepth 20000 in
theorem b_X10_takersOf_4 (σ : Mem) (x1 : Int)  {r : Option V × Mem × Mem} : ∀ a x, f_X10_takersOf_4B σ x1 a = some x → K_X10_takersOf_4 σ x1 r x → K_X10_takersOf_4 σ x1 r (.inl a) := by
  intro a x h K
  obtain ⟨x2, x3⟩ := a
  have h : f_X10_takersOf_4C σ x1 x2 x3 = some x := h
  unfold f_X10_takersOf_4C at h
  show Ev M_X10_takersOf 218 218 r 4 218 rho σ [(2, (0 : Int)), (0, x1), (0, x2), (0, x3)] []
  refine ev_iload_n dX10_takersOf_4 rfl ?_
  refine ev_aload_n dX10_takersOf_5 rfl (by decide) ?_
  refine ev_getf (j := 0) (t := 2) (x := (1 : Int)) dX10_takersOf_6 cf_X10 wf_X10_12 sp0 (by decide) (by decide) rfl (by decide) (rp0_0 _) ?_
  refine ev_getf (j := 9) (t := 0) (x := (σ (1 : Int) 9)) dX10_takersOf_9 cf_X0 wf_X10_174 sp1 (by decide) (by decide) rfl (by decide) rfl ?_
  refine ev_icmp_ge (tgt := 36) dX10_takersOf_12 rfl h (fun cb h => ?_) (fun cb h => ?_)
  · obtain rfl := Option.some.inj h
    exact ev_sub (L2 := [(9, 0), (9, 0), (0, x2), (9, 0)]) K ⟨.inl rfl, .inl rfl, .inr rfl, .inl rfl, trivial⟩
  refine ev_aload_n dX10_takersOf_15 rfl (by decide) ?_
  refine ev_getf (j := 0) (t := 2) (x := (1 : Int)) dX10_takersOf_16 cf_X10 wf_X10_12 sp0 (by decide) (by decide) rfl (by decide) (rp0_0 _) ?_
  refine ev_iload_n dX10_takersOf_19 rfl ?_
  refine ev_iload_n dX10_takersOf_20 rfl ?_
  obtain ⟨v1, hc2, h⟩ := bind_of h
  refine ev_invV_v (k := (1 : Int)) (av := [(0, x3), (0, x1)]) (st := []) (v := (0, v1)) (τ := σ) dX10_takersOf_21 ml_X10_188 mv_X0_doesTake (T := TX0) (ci := 0) rfl sp1 (by decide) (by decide) rfl ⟨Nat.le_of_ble_eq_true rfl, Nat.le_of_ble_eq_true rfl⟩ (Nat.le_of_ble_eq_true rfl) (c_X0_doesTake hB1 hc2) ?_
  refine ev_if_eq (tgt := 30) dX10_takersOf_24 rfl h (fun cb h => ?_) (fun cb h => ?_)
  · exact ev_sub (L2 := [(2, (0 : Int)), (0, x1), (0, x2), (0, x3)]) (e_X10_takersOf_30 σ x1 x2 x3 h K) ⟨.inr rfl, .inr rfl, .inr rfl, .inr rfl, trivial⟩
  refine ev_iincG dX10_takersOf_27 rfl h rfl (fun v3 h => ?_)
  show Ev _ _ _ _ 30 _ _ _ [(2, (0 : Int)), (0, x1), (0, v3), (0, x3)] _
  exact ev_sub (L2 := [(2, (0 : Int)), (0, x1), (0, v3), (0, x3)]) (e_X10_takersOf_30 σ x1 v3 x3 h K) ⟨.inr rfl, .inr rfl, .inr rfl, .inr rfl, trivial⟩
set_option maxHeartbeats 4000000 in
set_option maxRecDepth 20000 in
theorem e_X10_takersOf_4 (σ : Mem) (x1 x2 x3 : Int)  {q : Int} (h : f_X10_takersOf_4 σ x1 x2 x3 = some q) : Ev M_X10_takersOf 218 218 (some (0, q), rho, σ) 4 218 rho σ [(2, (0 : Int)), (0, x1), (0, x2), (0, x3)] [] := by
  unfold f_X10_takersOf_4 at h
  obtain ⟨e, hl, h⟩ := bind_of h
  refine loop_ev (K := K_X10_takersOf_4 σ x1 (some (0, q), rho, σ)) (b_X10_takersOf_4 σ x1) FU (x2, x3) e hl ?_
  show Ev M_X10_takersOf 218 218 _ 36 218 rho σ [(9, 0), (9, 0), (0, e), (9, 0)] []
  replace h : some e = some q := h
  refine ev_iload_n dX10_takersOf_36 rfl ?_
  obtain rfl := Option.some.inj h
  exact ev_iret dX10_takersOf_37 rfl rfl
set_option maxHeartbeats 4000000 in
set_option maxRecDepth 20000 in
theorem c_X10_takersOf {σ : Mem} {x1 : Int}  {q : Int} (h : f_X10_takersOf σ x1 = some q) : Ms yX10_takersOf M_X10_takersOf 218 218 [(2, (0 : Int)), (0, x1)] rho σ (some (0, q), rho, σ) := by
  refine Ms.of 2 (by decide +kernel) rfl (fun z => absurd z (by decide)) (fun _ _ _ => trivial) rfl rfl ?_
  unfold f_X10_takersOf at h
  show Ev M_X10_takersOf 218 218 _ 0 218 rho σ [(2, (0 : Int)), (0, x1), (9, 0), (9, 0)] []
  refine ev_iconst dX10_takersOf_0 (by decide) ?_
  refine ev_istore_n dX10_takersOf_1 rfl (by decide) ?_
  show Ev _ _ _ _ 2 _ _ _ [(2, (0 : Int)), (0, x1), (0, (0 : Int)), (9, 0)] _
  refine ev_iconst dX10_takersOf_2 (by decide) ?_
  refine ev_istore_n dX10_takersOf_3 rfl (by decide) ?_
  show Ev _ _ _ _ 4 _ _ _ [(2, (0 : Int)), (0, x1), (0, (0 : Int)), (0, (0 : Int))] _
  exact ev_sub (L2 := [(2, (0 : Int)), (0, x1), (0, (0 : Int)), (0, (0 : Int))]) (e_X10_takersOf_4 σ x1 (0 : Int) (0 : Int) h) ⟨.inr rfl, .inr rfl, .inr rfl, .inr rfl, trivial⟩
def K_X10_lateOnesOf_4 (x1 : Int) (r : Option V × Mem × Mem) : (Int × Int × Mem) ⊕ ((Int × Mem)) → Prop := Sum.elim (fun a => Ev M_X10_lateOnesOf 218 218 r 4 218 rho a.2.2 [(2, (0 : Int)), (0, x1), (0, a.1), (0, a.2.1)] []) (fun e => Ev M_X10_lateOnesOf 218 218 r 47 218 rho e.2 [(9, 0), (9, 0), (0, e.1), (9, 0)] [])
set_option maxHeartbeats 4000000 in
set_option maxRecDepth 20000 in
theorem e_X10_lateOnesOf_41 (σ : Mem) (x1 x2 x3 : Int)  {q : ((Int × Int × Mem) ⊕ ((Int × Mem)))} (h : f_X10_lateOnesOf_41 σ x1 x2 x3 = some q) {r : Option V × Mem × Mem} (K : K_X10_lateOnesOf_4 x1 r q) : Ev M_X10_lateOnesOf 218 218 r 41 218 rho σ [(2, (0 : Int)), (0, x1), (0, x2), (0, x3)] [] := by
  unfold f_X10_lateOnesOf_41 at h
  refine ev_iincG dX10_lateOnesOf_41 rfl h rfl (fun v7 h => ?_)
  show Ev _ _ _ _ 44 _ _ _ [(2, (0 : Int)), (0, x1), (0, x2), (0, v7)] _
  refine ev_goto (tgt := 4) dX10_lateOnesOf_44 rfl ?_
  obtain rfl := Option.some.inj h
  exact ev_sub (L2 := [(2, (0 : Int)), (0, x1), (0, x2), (0, v7)]) K ⟨.inr rfl, .inr rfl, .inr rfl, .inr rfl, trivial⟩
set_option maxHeartbeats 4000000 in
set_option maxRecDepth 20000 in
theorem b_X10_lateOnesOf_4 (x1 : Int)  {r : Option V × Mem × Mem} : ∀ a x, f_X10_lateOnesOf_4B x1 a = some x → K_X10_lateOnesOf_4 x1 r x → K_X10_lateOnesOf_4 x1 r (.inl a) := by
  intro a x h K
  obtain ⟨x2, x3, σ⟩ := a
  have h : f_X10_lateOnesOf_4C x1 x2 x3 σ = some x := h
  unfold f_X10_lateOnesOf_4C at h
  show Ev M_X10_lateOnesOf 218 218 r 4 218 rho σ [(2, (0 : Int)), (0, x1), (0, x2), (0, x3)] []
  refine ev_iload_n dX10_lateOnesOf_4 rfl ?_
  refine ev_aload_n dX10_lateOnesOf_5 rfl (by decide) ?_
  refine ev_getf (j := 0) (t := 2) (x := (1 : Int)) dX10_lateOnesOf_6 cf_X10 wf_X10_12 sp0 (by decide) (by decide) rfl (by decide) (rp0_0 _) ?_
  refine ev_getf (j := 9) (t := 0) (x := (σ (1 : Int) 9)) dX10_lateOnesOf_9 cf_X0 wf_X10_174 sp1 (by decide) (by decide) rfl (by decide) rfl ?_
  refine ev_icmp_ge (tgt := 47) dX10_lateOnesOf_12 rfl h (fun cb h => ?_) (fun cb h => ?_)
  · obtain rfl := Option.some.inj h
    exact ev_sub (L2 := [(9, 0), (9, 0), (0, x2), (9, 0)]) K ⟨.inl rfl, .inl rfl, .inr rfl, .inl rfl, trivial⟩
  refine ev_aload_n dX10_lateOnesOf_15 rfl (by decide) ?_
  refine ev_getf (j := 8) (t := 2) (x := (43 : Int)) dX10_lateOnesOf_16 cf_X10 wf_X10_50 sp0 (by decide) (by decide) rfl (by decide) (rp0_8 _) ?_
  refine ev_aload_n dX10_lateOnesOf_19 rfl (by decide) ?_
  refine ev_getf (j := 0) (t := 2) (x := (1 : Int)) dX10_lateOnesOf_20 cf_X10 wf_X10_12 sp0 (by decide) (by decide) rfl (by decide) (rp0_0 _) ?_
  refine ev_iload_n dX10_lateOnesOf_23 rfl ?_
  obtain ⟨v1, hc2, h⟩ := bind_of h
  refine ev_invV_v (k := (43 : Int)) (av := [(2, (1 : Int)), (0, x3)]) (st := []) (v := (2, v1.1)) (τ := v1.2) dX10_lateOnesOf_24 ml_X10_243 mv_X9_of (T := TX9) (ci := 8) rfl sp43 (by decide) (by decide) rfl ⟨Nat.le_of_ble_eq_true rfl, Nat.le_of_ble_eq_true rfl⟩ (Nat.le_of_ble_eq_true rfl) (c_X9_of hc2) ?_
  have hw3 := w_X9_of hc2
  refine ev_aload_n dX10_lateOnesOf_27 rfl (by decide) ?_
  refine ev_getf (j := 0) (t := 2) (x := (1 : Int)) dX10_lateOnesOf_28 cf_X10 wf_X10_12 sp0 (by decide) (by decide) rfl (by decide) (rp0_0 _) ?_
  refine ev_iload_n dX10_lateOnesOf_31 rfl ?_
  obtain ⟨v4, hc5, h⟩ := bind_of h
  refine ev_invV_v (k := v1.1) (av := [(2, (1 : Int)), (0, x1)]) (st := []) (v := (0, v4)) (τ := v1.2) dX10_lateOnesOf_32 ml_X10_421 mv_X8_beginsLate (T := TX8) (ci := 7) rfl (sW hw3) (pW hw3).1 (pW hw3).2 rfl ⟨Nat.le_of_ble_eq_true rfl, Nat.le_of_ble_eq_true rfl⟩ (Nat.le_of_ble_eq_true rfl) (c_X8_beginsLate hw3 hB1 hc5) ?_
  refine ev_if_eq (tgt := 41) dX10_lateOnesOf_35 rfl h (fun cb h => ?_) (fun cb h => ?_)
  · exact ev_sub (L2 := [(2, (0 : Int)), (0, x1), (0, x2), (0, x3)]) (e_X10_lateOnesOf_41 v1.2 x1 x2 x3 h K) ⟨.inr rfl, .inr rfl, .inr rfl, .inr rfl, trivial⟩
  refine ev_iincG dX10_lateOnesOf_38 rfl h rfl (fun v6 h => ?_)
  show Ev _ _ _ _ 41 _ _ _ [(2, (0 : Int)), (0, x1), (0, v6), (0, x3)] _
  exact ev_sub (L2 := [(2, (0 : Int)), (0, x1), (0, v6), (0, x3)]) (e_X10_lateOnesOf_41 v1.2 x1 v6 x3 h K) ⟨.inr rfl, .inr rfl, .inr rfl, .inr rfl, trivial⟩
set_option maxHeartbeats 4000000 in
set_option maxRecDepth 20000 in
theorem e_X10_lateOnesOf_4 (σ : Mem) (x1 x2 x3 : Int)  {q : (Int × Mem)} (h : f_X10_lateOnesOf_4 σ x1 x2 x3 = some q) : Ev M_X10_lateOnesOf 218 218 (some (0, q.1), rho, q.2) 4 218 rho σ [(2, (0 : Int)), (0, x1), (0, x2), (0, x3)] [] := by
  unfold f_X10_lateOnesOf_4 at h
  obtain ⟨e, hl, h⟩ := bind_of h
  refine loop_ev (K := K_X10_lateOnesOf_4 x1 (some (0, q.1), rho, q.2)) (b_X10_lateOnesOf_4 x1) FU (x2, x3, σ) e hl ?_
  show Ev M_X10_lateOnesOf 218 218 _ 47 218 rho e.2 [(9, 0), (9, 0), (0, e.1), (9, 0)] []
  replace h : some (e.1, e.2) = some q := h
  refine ev_iload_n dX10_lateOnesOf_47 rfl ?_
  obtain rfl := Option.some.inj h
  dsimp only
  exact ev_iret dX10_lateOnesOf_48 rfl rfl
set_option maxHeartbeats 4000000 in
set_option maxRecDepth 20000 in
theorem c_X10_lateOnesOf {σ : Mem} {x1 : Int}  {q : (Int × Mem)} (h : f_X10_lateOnesOf σ x1 = some q) : Ms yX10_lateOnesOf M_X10_lateOnesOf 218 218 [(2, (0 : Int)), (0, x1)] rho σ (some (0, q.1), rho, q.2) := by
  refine Ms.of 2 (by decide +kernel) rfl (fun z => absurd z (by decide)) (fun _ _ _ => trivial) rfl rfl ?_
  unfold f_X10_lateOnesOf at h
  show Ev M_X10_lateOnesOf 218 218 _ 0 218 rho σ [(2, (0 : Int)), (0, x1), (9, 0), (9, 0)] []
  refine ev_iconst dX10_lateOnesOf_0 (by decide) ?_
  refine ev_istore_n dX10_lateOnesOf_1 rfl (by decide) ?_
  show Ev _ _ _ _ 2 _ _ _ [(2, (0 : Int)), (0, x1), (0, (0 : Int)), (9, 0)] _
  refine ev_iconst dX10_lateOnesOf_2 (by decide) ?_
  refine ev_istore_n dX10_lateOnesOf_3 rfl (by decide) ?_
  show Ev _ _ _ _ 4 _ _ _ [(2, (0 : Int)), (0, x1), (0, (0 : Int)), (0, (0 : Int))] _
  exact ev_sub (L2 := [(2, (0 : Int)), (0, x1), (0, (0 : Int)), (0, (0 : Int))]) (e_X10_lateOnesOf_4 σ x1 (0 : Int) (0 : Int) h) ⟨.inr rfl, .inr rfl, .inr rfl, .inr rfl, trivial⟩
set_option maxHeartbeats 4000000 in
set_option maxRecDepth 20000 in
theorem c_X10_paperOf {σ : Mem} {x1 x2 : Int}  {q : (Int × Mem)} (h : f_X10_paperOf σ x1 x2 = some q) : Ms yX10_paperOf M_X10_paperOf 218 218 [(2, (0 : Int)), (0, x1), (0, x2)] rho σ (some (0, q.1), rho, q.2) := by
  refine Ms.of 0 (by decide +kernel) rfl (fun z => absurd z (by decide)) (fun _ _ _ => trivial) rfl rfl ?_
  unfold f_X10_paperOf at h
  show Ev M_X10_paperOf 218 218 _ 0 218 rho σ [(2, (0 : Int)), (0, x1), (0, x2)] []
  refine ev_aload_n dX10_paperOf_0 rfl (by decide) ?_
  refine ev_getf (j := 0) (t := 2) (x := (1 : Int)) dX10_paperOf_1 cf_X10 wf_X10_12 sp0 (by decide) (by decide) rfl (by decide) (rp0_0 _) ?_
  refine ev_iload_n dX10_paperOf_4 rfl ?_
  refine ev_i2lk dX10_paperOf_5 ?_
  obtain ⟨v1, hc2, h⟩ := bind_of h
  refine ev_invV_v (k := (1 : Int)) (av := [(1, x1)]) (st := []) (v := (0, v1)) (τ := σ) dX10_paperOf_6 ml_X10_164 mv_X0_hasPaper (T := TX0) (ci := 0) rfl sp1 (by decide) (by decide) rfl ⟨Nat.le_of_ble_eq_true rfl, Nat.le_of_ble_eq_true rfl⟩ (Nat.le_of_ble_eq_true rfl) (c_X0_hasPaper hB1 hc2) ?_
  refine ev_if_ne (tgt := 19) dX10_paperOf_9 rfl h (fun cb h => ?_) (fun cb h => ?_)
  · refine ev_iload_n dX10_paperOf_19 rfl ?_
    refine ev_by h (fun cs h => ?_) (fun cs0 h => ?_)
    · refine ev_tswIn (off := 36) (tgt := 56) dX10_paperOf_20 (by rw [cs]; decide) (by rw [cs]; decide) (by rw [cs]; rfl) rfl ?_
      refine ev_aload_n dX10_paperOf_56 rfl (by decide) ?_
      refine ev_getf (j := 0) (t := 2) (x := (1 : Int)) dX10_paperOf_57 cf_X10 wf_X10_12 sp0 (by decide) (by decide) rfl (by decide) (rp0_0 _) ?_
      refine ev_getf (j := 0) (t := 2) (x := (2 : Int)) dX10_paperOf_60 cf_X0 wf_X10_250 sp1 (by decide) (by decide) rfl (by decide) (rp1_0 _) ?_
      refine ev_iload_n dX10_paperOf_63 rfl ?_
      refine ev_iald dX10_paperOf_64 sp2 (by decide) (by decide) h (fun h => ?_)
      obtain rfl := Option.some.inj h
      dsimp only
      exact ev_iret dX10_paperOf_65 rfl rfl
    refine ev_by h (fun cs h => ?_) (fun cs1 h => ?_)
    · refine ev_tswIn (off := 46) (tgt := 66) dX10_paperOf_20 (by rw [cs]; decide) (by rw [cs]; decide) (by rw [cs]; rfl) rfl ?_
      refine ev_aload_n dX10_paperOf_66 rfl (by decide) ?_
      refine ev_getf (j := 0) (t := 2) (x := (1 : Int)) dX10_paperOf_67 cf_X10 wf_X10_12 sp0 (by decide) (by decide) rfl (by decide) (rp0_0 _) ?_
      refine ev_getf (j := 1) (t := 2) (x := (3 : Int)) dX10_paperOf_70 cf_X0 wf_X10_168 sp1 (by decide) (by decide) rfl (by decide) (rp1_1 _) ?_
      refine ev_iload_n dX10_paperOf_73 rfl ?_
      refine ev_iald dX10_paperOf_74 sp3 (by decide) (by decide) h (fun h => ?_)
      obtain rfl := Option.some.inj h
      dsimp only
      exact ev_iret dX10_paperOf_75 rfl rfl
    refine ev_by h (fun cs h => ?_) (fun cs2 h => ?_)
    · refine ev_tswIn (off := 56) (tgt := 76) dX10_paperOf_20 (by rw [cs]; decide) (by rw [cs]; decide) (by rw [cs]; rfl) rfl ?_
      refine ev_aload_n dX10_paperOf_76 rfl (by decide) ?_
      refine ev_getf (j := 0) (t := 2) (x := (1 : Int)) dX10_paperOf_77 cf_X10 wf_X10_12 sp0 (by decide) (by decide) rfl (by decide) (rp0_0 _) ?_
      refine ev_getf (j := 2) (t := 2) (x := (4 : Int)) dX10_paperOf_80 cf_X0 wf_X10_253 sp1 (by decide) (by decide) rfl (by decide) (rp1_2 _) ?_
      refine ev_iload_n dX10_paperOf_83 rfl ?_
      refine ev_iald dX10_paperOf_84 sp4 (by decide) (by decide) h (fun h => ?_)
      obtain rfl := Option.some.inj h
      dsimp only
      exact ev_iret dX10_paperOf_85 rfl rfl
    refine ev_by h (fun cs h => ?_) (fun cs3 h => ?_)
    · refine ev_tswIn (off := 66) (tgt := 86) dX10_paperOf_20 (by rw [cs]; decide) (by rw [cs]; decide) (by rw [cs]; rfl) rfl ?_
      refine ev_aload_n dX10_paperOf_86 rfl (by decide) ?_
      refine ev_iload_n dX10_paperOf_87 rfl ?_
      obtain ⟨v3, hc4, h⟩ := bind_of h
      refine ev_invV_v (k := (0 : Int)) (av := [(0, x1)]) (st := []) (v := (0, v3)) (τ := σ) dX10_paperOf_88 ml_X10_256 mv_X10_takersOf (T := TX10) (ci := 9) rfl sp0 (by decide) (by decide) rfl ⟨Nat.le_of_ble_eq_true rfl, Nat.le_of_ble_eq_true rfl⟩ (Nat.le_of_ble_eq_true rfl) (c_X10_takersOf hc4) ?_
      obtain rfl := Option.some.inj h
      dsimp only
      exact ev_iret dX10_paperOf_91 rfl rfl
    refine ev_by h (fun cs h => ?_) (fun cs4 h => ?_)
    · refine ev_tswIn (off := 72) (tgt := 92) dX10_paperOf_20 (by rw [cs]; decide) (by rw [cs]; decide) (by rw [cs]; rfl) rfl ?_
      refine ev_aload_n dX10_paperOf_92 rfl (by decide) ?_
      refine ev_iload_n dX10_paperOf_93 rfl ?_
      obtain ⟨v5, hc6, h⟩ := bind_of h
      refine ev_invV_v (k := (0 : Int)) (av := [(0, x1)]) (st := []) (v := (0, v5.1)) (τ := v5.2) dX10_paperOf_94 ml_X10_259 mv_X10_lateOnesOf (T := TX10) (ci := 9) rfl sp0 (by decide) (by decide) rfl ⟨Nat.le_of_ble_eq_true rfl, Nat.le_of_ble_eq_true rfl⟩ (Nat.le_of_ble_eq_true rfl) (c_X10_lateOnesOf hc6) ?_
      obtain rfl := Option.some.inj h
      dsimp only
      exact ev_iret dX10_paperOf_97 rfl rfl
    refine ev_tswOut (tgt := 98) dX10_paperOf_20 (by omega) rfl ?_
    refine ev_aload_n dX10_paperOf_98 rfl (by decide) ?_
    refine ev_bipush dX10_paperOf_99 (by decide) (by decide) ?_
    obtain ⟨v7, hc8, h⟩ := bind_of h
    refine ev_invV_v (k := (0 : Int)) (av := [(0, (-52 : Int))]) (st := []) (v := (0, v7.1)) (τ := v7.2) dX10_paperOf_101 ml_X10_88 mv_X10_refuse (T := TX10) (ci := 9) rfl sp0 (by decide) (by decide) rfl ⟨Nat.le_of_ble_eq_true rfl, Nat.le_of_ble_eq_true rfl⟩ (Nat.le_of_ble_eq_true rfl) (c_X10_refuse hc8) ?_
    obtain rfl := Option.some.inj h
    dsimp only
    exact ev_iret dX10_paperOf_104 rfl rfl
  refine ev_aload_n dX10_paperOf_12 rfl (by decide) ?_
  refine ev_bipush dX10_paperOf_13 (by decide) (by decide) ?_
  obtain ⟨v9, hc10, h⟩ := bind_of h
  refine ev_invV_v (k := (0 : Int)) (av := [(0, (-52 : Int))]) (st := []) (v := (0, v9.1)) (τ := v9.2) dX10_paperOf_15 ml_X10_88 mv_X10_refuse (T := TX10) (ci := 9) rfl sp0 (by decide) (by decide) rfl ⟨Nat.le_of_ble_eq_true rfl, Nat.le_of_ble_eq_true rfl⟩ (Nat.le_of_ble_eq_true rfl) (c_X10_refuse hc10) ?_
  obtain rfl := Option.some.inj h
  dsimp only
  exact ev_iret dX10_paperOf_18 rfl rfl
set_option maxHeartbeats 4000000 in
set_option maxRecDepth 20000 in
theorem e_X10_time_23 (σ : Mem)  {q : (Int × Mem)} (h : f_X10_time_23 σ  = some q) : Ev M_X10_time 218 218 (some (0, q.1), rho, q.2) 23 218 rho σ [(2, (0 : Int)), (9, 0), (9, 0)] [] := by
  unfold f_X10_time_23 at h
  refine ev_aload_n dX10_time_23 rfl (by decide) ?_
  refine ev_bipush dX10_time_24 (by decide) (by decide) ?_
  obtain ⟨v7, hc8, h⟩ := bind_of h
  refine ev_invV_v (k := (0 : Int)) (av := [(0, (-52 : Int))]) (st := []) (v := (0, v7.1)) (τ := v7.2) dX10_time_26 ml_X10_88 mv_X10_refuse (T := TX10) (ci := 9) rfl sp0 (by decide) (by decide) rfl ⟨Nat.le_of_ble_eq_true rfl, Nat.le_of_ble_eq_true rfl⟩ (Nat.le_of_ble_eq_true rfl) (c_X10_refuse hc8) ?_
  obtain rfl := Option.some.inj h
  dsimp only
  exact ev_iret dX10_time_29 rfl rfl
set_option maxHeartbeats 4000000 in
set_option maxRecDepth 20000 in
theorem c_X10_time {σ : Mem} {x1 x2 : Int}  {q : (Int × Mem)} (h : f_X10_time σ x1 x2 = some q) : Ms yX10_time M_X10_time 218 218 [(2, (0 : Int)), (0, x1), (0, x2)] rho σ (some (0, q.1), rho, q.2) := by
  refine Ms.of 0 (by decide +kernel) rfl (fun z => absurd z (by decide)) (fun _ _ _ => trivial) rfl rfl ?_
  unfold f_X10_time at h
  show Ev M_X10_time 218 218 _ 0 218 rho σ [(2, (0 : Int)), (0, x1), (0, x2)] []
  refine ev_aload_n dX10_time_0 rfl (by decide) ?_
  refine ev_getf (j := 0) (t := 2) (x := (1 : Int)) dX10_time_1 cf_X10 wf_X10_12 sp0 (by decide) (by decide) rfl (by decide) (rp0_0 _) ?_
  refine ev_iload_n dX10_time_4 rfl ?_
  obtain ⟨v1, hc2, h⟩ := bind_of h
  refine ev_invV_v (k := (1 : Int)) (av := [(0, x1)]) (st := []) (v := (0, v1)) (τ := σ) dX10_time_5 ml_X10_122 mv_X0_hasCand (T := TX0) (ci := 0) rfl sp1 (by decide) (by decide) rfl ⟨Nat.le_of_ble_eq_true rfl, Nat.le_of_ble_eq_true rfl⟩ (Nat.le_of_ble_eq_true rfl) (c_X0_hasCand hB1 hc2) ?_
  refine ev_if_eq (tgt := 23) dX10_time_8 rfl h (fun cb h => ?_) (fun cb h => ?_)
  · exact ev_sub (L2 := [(2, (0 : Int)), (9, 0), (9, 0)]) (e_X10_time_23 σ h) ⟨.inr rfl, .inl rfl, .inl rfl, trivial⟩
  refine ev_aload_n dX10_time_11 rfl (by decide) ?_
  refine ev_getf (j := 0) (t := 2) (x := (1 : Int)) dX10_time_12 cf_X10 wf_X10_12 sp0 (by decide) (by decide) rfl (by decide) (rp0_0 _) ?_
  refine ev_iload_n dX10_time_15 rfl ?_
  refine ev_i2lk dX10_time_16 ?_
  obtain ⟨v3, hc4, h⟩ := bind_of h
  refine ev_invV_v (k := (1 : Int)) (av := [(1, x2)]) (st := []) (v := (0, v3)) (τ := σ) dX10_time_17 ml_X10_164 mv_X0_hasPaper (T := TX0) (ci := 0) rfl sp1 (by decide) (by decide) rfl ⟨Nat.le_of_ble_eq_true rfl, Nat.le_of_ble_eq_true rfl⟩ (Nat.le_of_ble_eq_true rfl) (c_X0_hasPaper hB1 hc4) ?_
  refine ev_if_ne (tgt := 30) dX10_time_20 rfl h (fun cb h => ?_) (fun cb h => ?_)
  · refine ev_aload_n dX10_time_30 rfl (by decide) ?_
    refine ev_getf (j := 0) (t := 2) (x := (1 : Int)) dX10_time_31 cf_X10 wf_X10_12 sp0 (by decide) (by decide) rfl (by decide) (rp0_0 _) ?_
    refine ev_iload_n dX10_time_34 rfl ?_
    refine ev_iload_n dX10_time_35 rfl ?_
    obtain ⟨v5, hc6, h⟩ := bind_of h
    refine ev_invV_v (k := (1 : Int)) (av := [(0, x1), (0, x2)]) (st := []) (v := (0, v5)) (τ := σ) dX10_time_36 ml_X10_262 mv_X0_timeFor (T := TX0) (ci := 0) rfl sp1 (by decide) (by decide) rfl ⟨Nat.le_of_ble_eq_true rfl, Nat.le_of_ble_eq_true rfl⟩ (Nat.le_of_ble_eq_true rfl) (c_X0_timeFor hB1 hc6) ?_
    obtain rfl := Option.some.inj h
    dsimp only
    exact ev_iret dX10_time_39 rfl rfl
  exact ev_sub (L2 := [(2, (0 : Int)), (9, 0), (9, 0)]) (e_X10_time_23 σ h) ⟨.inr rfl, .inl rfl, .inl rfl, trivial⟩
set_option maxHeartbeats 4000000 in
set_option maxRecDepth 20000 in
theorem e_X10_plan_18 (σ : Mem)  {q : (Int × Mem)} (h : f_X10_plan_18 σ  = some q) : Ev M_X10_plan 218 218 (some (0, q.1), rho, q.2) 18 218 rho σ [(2, (0 : Int)), (9, 0), (9, 0), (9, 0), (9, 0)] [] := by
  unfold f_X10_plan_18 at h
  refine ev_aload_n dX10_plan_18 rfl (by decide) ?_
  refine ev_bipush dX10_plan_19 (by decide) (by decide) ?_
  obtain ⟨v14, hc15, h⟩ := bind_of h
  refine ev_invV_v (k := (0 : Int)) (av := [(0, (-52 : Int))]) (st := []) (v := (0, v14.1)) (τ := v14.2) dX10_plan_21 ml_X10_88 mv_X10_refuse (T := TX10) (ci := 9) rfl sp0 (by decide) (by decide) rfl ⟨Nat.le_of_ble_eq_true rfl, Nat.le_of_ble_eq_true rfl⟩ (Nat.le_of_ble_eq_true rfl) (c_X10_refuse hc15) ?_
  obtain rfl := Option.some.inj h
  dsimp only
  exact ev_iret dX10_plan_24 rfl rfl
set_option maxHeartbeats 4000000 in
set_option maxRecDepth 20000 in
theorem c_X10_plan {σ : Mem} {x1 x2 x3 : Int}  {q : (Int × Mem)} (h : f_X10_plan σ x1 x2 x3 = some q) : Ms yX10_plan M_X10_plan 218 218 [(2, (0 : Int)), (0, x1), (0, x2), (0, x3)] rho σ (some (0, q.1), rho, q.2) := by
  refine Ms.of 1 (by decide +kernel) rfl (fun z => absurd z (by decide)) (fun _ _ _ => trivial) rfl rfl ?_
  unfold f_X10_plan at h
  show Ev M_X10_plan 218 218 _ 0 218 rho σ [(2, (0 : Int)), (0, x1), (0, x2), (0, x3), (9, 0)] []
  refine ev_aload_n dX10_plan_0 rfl (by decide) ?_
  refine ev_getf (j := 0) (t := 2) (x := (1 : Int)) dX10_plan_1 cf_X10 wf_X10_12 sp0 (by decide) (by decide) rfl (by decide) (rp0_0 _) ?_
  refine ev_iload_n dX10_plan_4 rfl ?_
  obtain ⟨v1, hc2, h⟩ := bind_of h
  refine ev_invV_v (k := (1 : Int)) (av := [(0, x1)]) (st := []) (v := (0, v1)) (τ := σ) dX10_plan_5 ml_X10_122 mv_X0_hasCand (T := TX0) (ci := 0) rfl sp1 (by decide) (by decide) rfl ⟨Nat.le_of_ble_eq_true rfl, Nat.le_of_ble_eq_true rfl⟩ (Nat.le_of_ble_eq_true rfl) (c_X0_hasCand hB1 hc2) ?_
  refine ev_if_eq (tgt := 18) dX10_plan_8 rfl h (fun cb h => ?_) (fun cb h => ?_)
  · exact ev_sub (L2 := [(2, (0 : Int)), (9, 0), (9, 0), (9, 0), (9, 0)]) (e_X10_plan_18 σ h) ⟨.inr rfl, .inl rfl, .inl rfl, .inl rfl, .inl rfl, trivial⟩
  refine ev_iload_n dX10_plan_11 rfl ?_
  obtain ⟨v3, hc4, h⟩ := bind_of h
  refine ev_invS_v (av := [(0, x2)]) (st := []) (v := (0, v3)) (τ := σ) dX10_plan_12 ml_X10_150 mt_X10_isDay rfl ⟨Nat.le_of_ble_eq_true rfl, Nat.le_of_ble_eq_true rfl⟩ (Nat.le_of_ble_eq_true rfl) (c_X10_isDay hc4) ?_
  refine ev_if_ne (tgt := 25) dX10_plan_15 rfl h (fun cb h => ?_) (fun cb h => ?_)
  · refine ev_aload_n dX10_plan_25 rfl (by decide) ?_
    refine ev_getf (j := 8) (t := 2) (x := (43 : Int)) dX10_plan_26 cf_X10 wf_X10_50 sp0 (by decide) (by decide) rfl (by decide) (rp0_8 _) ?_
    refine ev_aload_n dX10_plan_29 rfl (by decide) ?_
    refine ev_getf (j := 0) (t := 2) (x := (1 : Int)) dX10_plan_30 cf_X10 wf_X10_12 sp0 (by decide) (by decide) rfl (by decide) (rp0_0 _) ?_
    refine ev_iload_n dX10_plan_33 rfl ?_
    obtain ⟨v5, hc6, h⟩ := bind_of h
    refine ev_invV_v (k := (43 : Int)) (av := [(2, (1 : Int)), (0, x1)]) (st := []) (v := (2, v5.1)) (τ := v5.2) dX10_plan_34 ml_X10_243 mv_X9_of (T := TX9) (ci := 8) rfl sp43 (by decide) (by decide) rfl ⟨Nat.le_of_ble_eq_true rfl, Nat.le_of_ble_eq_true rfl⟩ (Nat.le_of_ble_eq_true rfl) (c_X9_of hc6) ?_
    have hw7 := w_X9_of hc6
    refine ev_astore dX10_plan_37 rfl (by decide) (pW hw7).1 ?_
    show Ev _ _ _ _ 39 _ _ _ [(2, (0 : Int)), (0, x1), (0, x2), (0, x3), (2, v5.1)] _
    refine ev_iload_n dX10_plan_39 rfl ?_
    refine ev_by h (fun cs h => ?_) (fun cs0 h => ?_)
    · refine ev_tswIn (off := 44) (tgt := 84) dX10_plan_40 (by rw [cs]; decide) (by rw [cs]; decide) (by rw [cs]; rfl) rfl ?_
      refine ev_aload dX10_plan_84 rfl (pW hw7).1 ?_
      refine ev_getf (j := 0) (t := 2) (x := (v5.1 + 1)) dX10_plan_86 cf_X8 wf_X10_265 (sW hw7) (pW hw7).1 (pW hw7).2 rfl (by decide) (rW0 _ hw7) ?_
      refine ev_iload_n dX10_plan_89 rfl ?_
      refine ev_zald dX10_plan_90 (sW0 hw7) (pW0 hw7).1 (pW0 hw7).2 h (fun h => ?_)
      refine ev_if_eq (tgt := 98) dX10_plan_91 rfl h (fun cb h => ?_) (fun cb h => ?_)
      · refine ev_iconst dX10_plan_98 (by decide) ?_
        obtain rfl := Option.some.inj h
        dsimp only
        exact ev_iret dX10_plan_99 rfl rfl
      refine ev_iconst dX10_plan_94 (by decide) ?_
      refine ev_goto (tgt := 99) dX10_plan_95 rfl ?_
      obtain rfl := Option.some.inj h
      dsimp only
      exact ev_iret dX10_plan_99 rfl rfl
    refine ev_by h (fun cs h => ?_) (fun cs1 h => ?_)
    · refine ev_tswIn (off := 60) (tgt := 100) dX10_plan_40 (by rw [cs]; decide) (by rw [cs]; decide) (by rw [cs]; rfl) rfl ?_
      refine ev_aload dX10_plan_100 rfl (pW hw7).1 ?_
      refine ev_getf (j := 5) (t := 2) (x := (v5.1 + 6)) dX10_plan_102 cf_X8 wf_X10_269 (sW hw7) (pW hw7).1 (pW hw7).2 rfl (by decide) (rW5 _ hw7) ?_
      refine ev_iload_n dX10_plan_105 rfl ?_
      refine ev_lald dX10_plan_106 (sW5 hw7) (pW5 hw7).1 (pW5 hw7).2 h (fun h => ?_)
      obtain ⟨v8, hc9, h⟩ := bind_of h
      refine ev_invS_v (av := [(1, (v5.2 (v5.1 + 6) x2))]) (st := []) (v := (0, v8)) (τ := v5.2) dX10_plan_107 ml_X10_273 mt_J13_bitCount_95d88 rfl ⟨Nat.le_of_ble_eq_true rfl, Nat.le_of_ble_eq_true rfl⟩ (Nat.le_of_ble_eq_true rfl) (c_J13_bitCount_95d88 hc9) ?_
      obtain rfl := Option.some.inj h
      dsimp only
      exact ev_iret dX10_plan_110 rfl rfl
    refine ev_by h (fun cs h => ?_) (fun cs2 h => ?_)
    · refine ev_tswIn (off := 71) (tgt := 111) dX10_plan_40 (by rw [cs]; decide) (by rw [cs]; decide) (by rw [cs]; rfl) rfl ?_
      refine ev_aload dX10_plan_111 rfl (pW hw7).1 ?_
      refine ev_getf (j := 1) (t := 2) (x := (v5.1 + 2)) dX10_plan_113 cf_X8 wf_X10_279 (sW hw7) (pW hw7).1 (pW hw7).2 rfl (by decide) (rW1 _ hw7) ?_
      refine ev_iload_n dX10_plan_116 rfl ?_
      refine ev_iald dX10_plan_117 (sW1 hw7) (pW1 hw7).1 (pW1 hw7).2 h (fun h => ?_)
      obtain rfl := Option.some.inj h
      dsimp only
      exact ev_iret dX10_plan_118 rfl rfl
    refine ev_by h (fun cs h => ?_) (fun cs3 h => ?_)
    · refine ev_tswIn (off := 79) (tgt := 119) dX10_plan_40 (by rw [cs]; decide) (by rw [cs]; decide) (by rw [cs]; rfl) rfl ?_
      refine ev_aload dX10_plan_119 rfl (pW hw7).1 ?_
      refine ev_getf (j := 2) (t := 2) (x := (v5.1 + 3)) dX10_plan_121 cf_X8 wf_X10_282 (sW hw7) (pW hw7).1 (pW hw7).2 rfl (by decide) (rW2 _ hw7) ?_
      refine ev_iload_n dX10_plan_124 rfl ?_
      refine ev_iald dX10_plan_125 (sW2 hw7) (pW2 hw7).1 (pW2 hw7).2 h (fun h => ?_)
      obtain rfl := Option.some.inj h
      dsimp only
      exact ev_iret dX10_plan_126 rfl rfl
    refine ev_by h (fun cs h => ?_) (fun cs4 h => ?_)
    · refine ev_tswIn (off := 87) (tgt := 127) dX10_plan_40 (by rw [cs]; decide) (by rw [cs]; decide) (by rw [cs]; rfl) rfl ?_
      refine ev_aload dX10_plan_127 rfl (pW hw7).1 ?_
      refine ev_getf (j := 3) (t := 2) (x := (v5.1 + 4)) dX10_plan_129 cf_X8 wf_X10_285 (sW hw7) (pW hw7).1 (pW hw7).2 rfl (by decide) (rW3 _ hw7) ?_
      refine ev_iload_n dX10_plan_132 rfl ?_
      refine ev_iald dX10_plan_133 (sW3 hw7) (pW3 hw7).1 (pW3 hw7).2 h (fun h => ?_)
      obtain rfl := Option.some.inj h
      dsimp only
      exact ev_iret dX10_plan_134 rfl rfl
    refine ev_by h (fun cs h => ?_) (fun cs5 h => ?_)
    · refine ev_tswIn (off := 95) (tgt := 135) dX10_plan_40 (by rw [cs]; decide) (by rw [cs]; decide) (by rw [cs]; rfl) rfl ?_
      refine ev_aload dX10_plan_135 rfl (pW hw7).1 ?_
      refine ev_getf (j := 4) (t := 2) (x := (v5.1 + 5)) dX10_plan_137 cf_X8 wf_X10_288 (sW hw7) (pW hw7).1 (pW hw7).2 rfl (by decide) (rW4 _ hw7) ?_
      refine ev_iload_n dX10_plan_140 rfl ?_
      refine ev_iald dX10_plan_141 (sW4 hw7) (pW4 hw7).1 (pW4 hw7).2 h (fun h => ?_)
      obtain rfl := Option.some.inj h
      dsimp only
      exact ev_iret dX10_plan_142 rfl rfl
    refine ev_by h (fun cs h => ?_) (fun cs6 h => ?_)
    · refine ev_tswIn (off := 103) (tgt := 143) dX10_plan_40 (by rw [cs]; decide) (by rw [cs]; decide) (by rw [cs]; rfl) rfl ?_
      refine ev_aload dX10_plan_143 rfl (pW hw7).1 ?_
      refine ev_getf (j := 0) (t := 2) (x := (v5.1 + 1)) dX10_plan_145 cf_X8 wf_X10_265 (sW hw7) (pW hw7).1 (pW hw7).2 rfl (by decide) (rW0 _ hw7) ?_
      refine ev_iload_n dX10_plan_148 rfl ?_
      refine ev_zald dX10_plan_149 (sW0 hw7) (pW0 hw7).1 (pW0 hw7).2 h (fun h => ?_)
      refine ev_if_eq (tgt := 157) dX10_plan_150 rfl h (fun cb h => ?_) (fun cb h => ?_)
      · refine ev_aload_n dX10_plan_157 rfl (by decide) ?_
        refine ev_getf (j := 7) (t := 2) (x := (35 : Int)) dX10_plan_158 cf_X10 wf_X10_43 sp0 (by decide) (by decide) rfl (by decide) (rp0_7 _) ?_
        refine ev_aload_n dX10_plan_161 rfl (by decide) ?_
        refine ev_getf (j := 0) (t := 2) (x := (1 : Int)) dX10_plan_162 cf_X10 wf_X10_12 sp0 (by decide) (by decide) rfl (by decide) (rp0_0 _) ?_
        refine ev_iload_n dX10_plan_165 rfl ?_
        refine ev_iload_n dX10_plan_166 rfl ?_
        refine ev_aload dX10_plan_167 rfl (pW hw7).1 ?_
        obtain ⟨v10, hc11, h⟩ := bind_of h
        refine ev_invV_v (k := (35 : Int)) (av := [(2, (1 : Int)), (0, x1), (0, x2), (2, v5.1)]) (st := []) (v := (0, v10.1)) (τ := v10.2) dX10_plan_169 ml_X10_291 mv_X4_clash (T := TX4) (ci := 3) rfl sp35 (by decide) (by decide) rfl ⟨Nat.le_of_ble_eq_true rfl, Nat.le_of_ble_eq_true rfl⟩ (Nat.le_of_ble_eq_true rfl) (c_X4_clash hB1 hw7 hc11) ?_
        obtain rfl := Option.some.inj h
        dsimp only
        exact ev_iret dX10_plan_172 rfl rfl
      refine ev_iconst dX10_plan_153 (by decide) ?_
      refine ev_goto (tgt := 172) dX10_plan_154 rfl ?_
      obtain rfl := Option.some.inj h
      dsimp only
      exact ev_iret dX10_plan_172 rfl rfl
    refine ev_tswOut (tgt := 173) dX10_plan_40 (by omega) rfl ?_
    refine ev_aload_n dX10_plan_173 rfl (by decide) ?_
    refine ev_bipush dX10_plan_174 (by decide) (by decide) ?_
    obtain ⟨v12, hc13, h⟩ := bind_of h
    refine ev_invV_v (k := (0 : Int)) (av := [(0, (-52 : Int))]) (st := []) (v := (0, v12.1)) (τ := v12.2) dX10_plan_176 ml_X10_88 mv_X10_refuse (T := TX10) (ci := 9) rfl sp0 (by decide) (by decide) rfl ⟨Nat.le_of_ble_eq_true rfl, Nat.le_of_ble_eq_true rfl⟩ (Nat.le_of_ble_eq_true rfl) (c_X10_refuse hc13) ?_
    obtain rfl := Option.some.inj h
    dsimp only
    exact ev_iret dX10_plan_179 rfl rfl
  exact ev_sub (L2 := [(2, (0 : Int)), (9, 0), (9, 0), (9, 0), (9, 0)]) (e_X10_plan_18 σ h) ⟨.inr rfl, .inl rfl, .inl rfl, .inl rfl, .inl rfl, trivial⟩
set_option maxHeartbeats 4000000 in
set_option maxRecDepth 20000 in
theorem e_X10_sits_18 (σ : Mem)  {q : (Int × Mem)} (h : f_X10_sits_18 σ  = some q) : Ev M_X10_sits 218 218 (some (0, q.1), rho, q.2) 18 218 rho σ [(2, (0 : Int)), (9, 0), (9, 0), (9, 0), (9, 0), (9, 0), (9, 0)] [] := by
  unfold f_X10_sits_18 at h
  refine ev_aload_n dX10_sits_18 rfl (by decide) ?_
  refine ev_bipush dX10_sits_19 (by decide) (by decide) ?_
  obtain ⟨v11, hc12, h⟩ := bind_of h
  refine ev_invV_v (k := (0 : Int)) (av := [(0, (-52 : Int))]) (st := []) (v := (0, v11.1)) (τ := v11.2) dX10_sits_21 ml_X10_88 mv_X10_refuse (T := TX10) (ci := 9) rfl sp0 (by decide) (by decide) rfl ⟨Nat.le_of_ble_eq_true rfl, Nat.le_of_ble_eq_true rfl⟩ (Nat.le_of_ble_eq_true rfl) (c_X10_refuse hc12) ?_
  obtain rfl := Option.some.inj h
  dsimp only
  exact ev_iret dX10_sits_24 rfl rfl
set_option maxHeartbeats 4000000 in
set_option maxRecDepth 20000 in
theorem e_X10_sits_54 (σ : Mem)  {q : (Int × Mem)} (h : f_X10_sits_54 σ  = some q) : Ev M_X10_sits 218 218 (some (0, q.1), rho, q.2) 54 218 rho σ [(2, (0 : Int)), (9, 0), (9, 0), (9, 0), (9, 0), (9, 0), (9, 0)] [] := by
  unfold f_X10_sits_54 at h
  refine ev_aload_n dX10_sits_54 rfl (by decide) ?_
  refine ev_bipush dX10_sits_55 (by decide) (by decide) ?_
  obtain ⟨v13, hc14, h⟩ := bind_of h
  refine ev_invV_v (k := (0 : Int)) (av := [(0, (-52 : Int))]) (st := []) (v := (0, v13.1)) (τ := v13.2) dX10_sits_57 ml_X10_88 mv_X10_refuse (T := TX10) (ci := 9) rfl sp0 (by decide) (by decide) rfl ⟨Nat.le_of_ble_eq_true rfl, Nat.le_of_ble_eq_true rfl⟩ (Nat.le_of_ble_eq_true rfl) (c_X10_refuse hc14) ?_
  obtain rfl := Option.some.inj h
  dsimp only
  exact ev_iret dX10_sits_60 rfl rfl
set_option maxHeartbeats 4000000 in
set_option maxRecDepth 20000 in
theorem c_X10_sits {σ : Mem} {x1 x2 x3 x4 : Int}  {q : (Int × Mem)} (h : f_X10_sits σ x1 x2 x3 x4 = some q) : Ms yX10_sits M_X10_sits 218 218 [(2, (0 : Int)), (0, x1), (0, x2), (0, x3), (0, x4)] rho σ (some (0, q.1), rho, q.2) := by
  refine Ms.of 2 (by decide +kernel) rfl (fun z => absurd z (by decide)) (fun _ _ _ => trivial) rfl rfl ?_
  unfold f_X10_sits at h
  show Ev M_X10_sits 218 218 _ 0 218 rho σ [(2, (0 : Int)), (0, x1), (0, x2), (0, x3), (0, x4), (9, 0), (9, 0)] []
  refine ev_aload_n dX10_sits_0 rfl (by decide) ?_
  refine ev_getf (j := 0) (t := 2) (x := (1 : Int)) dX10_sits_1 cf_X10 wf_X10_12 sp0 (by decide) (by decide) rfl (by decide) (rp0_0 _) ?_
  refine ev_iload_n dX10_sits_4 rfl ?_
  obtain ⟨v1, hc2, h⟩ := bind_of h
  refine ev_invV_v (k := (1 : Int)) (av := [(0, x1)]) (st := []) (v := (0, v1)) (τ := σ) dX10_sits_5 ml_X10_122 mv_X0_hasCand (T := TX0) (ci := 0) rfl sp1 (by decide) (by decide) rfl ⟨Nat.le_of_ble_eq_true rfl, Nat.le_of_ble_eq_true rfl⟩ (Nat.le_of_ble_eq_true rfl) (c_X0_hasCand hB1 hc2) ?_
  refine ev_if_eq (tgt := 18) dX10_sits_8 rfl h (fun cb h => ?_) (fun cb h => ?_)
  · exact ev_sub (L2 := [(2, (0 : Int)), (9, 0), (9, 0), (9, 0), (9, 0), (9, 0), (9, 0)]) (e_X10_sits_18 σ h) ⟨.inr rfl, .inl rfl, .inl rfl, .inl rfl, .inl rfl, .inl rfl, .inl rfl, trivial⟩
  refine ev_iload_n dX10_sits_11 rfl ?_
  obtain ⟨v3, hc4, h⟩ := bind_of h
  refine ev_invS_v (av := [(0, x2)]) (st := []) (v := (0, v3)) (τ := σ) dX10_sits_12 ml_X10_150 mt_X10_isDay rfl ⟨Nat.le_of_ble_eq_true rfl, Nat.le_of_ble_eq_true rfl⟩ (Nat.le_of_ble_eq_true rfl) (c_X10_isDay hc4) ?_
  refine ev_if_ne (tgt := 25) dX10_sits_15 rfl h (fun cb h => ?_) (fun cb h => ?_)
  · refine ev_aload_n dX10_sits_25 rfl (by decide) ?_
    refine ev_getf (j := 8) (t := 2) (x := (43 : Int)) dX10_sits_26 cf_X10 wf_X10_50 sp0 (by decide) (by decide) rfl (by decide) (rp0_8 _) ?_
    refine ev_aload_n dX10_sits_29 rfl (by decide) ?_
    refine ev_getf (j := 0) (t := 2) (x := (1 : Int)) dX10_sits_30 cf_X10 wf_X10_12 sp0 (by decide) (by decide) rfl (by decide) (rp0_0 _) ?_
    refine ev_iload_n dX10_sits_33 rfl ?_
    obtain ⟨v5, hc6, h⟩ := bind_of h
    refine ev_invV_v (k := (43 : Int)) (av := [(2, (1 : Int)), (0, x1)]) (st := []) (v := (2, v5.1)) (τ := v5.2) dX10_sits_34 ml_X10_243 mv_X9_of (T := TX9) (ci := 8) rfl sp43 (by decide) (by decide) rfl ⟨Nat.le_of_ble_eq_true rfl, Nat.le_of_ble_eq_true rfl⟩ (Nat.le_of_ble_eq_true rfl) (c_X9_of hc6) ?_
    have hw7 := w_X9_of hc6
    refine ev_astore dX10_sits_37 rfl (by decide) (pW hw7).1 ?_
    show Ev _ _ _ _ 39 _ _ _ [(2, (0 : Int)), (0, x1), (0, x2), (0, x3), (0, x4), (2, v5.1), (9, 0)] _
    refine ev_iload_n dX10_sits_39 rfl ?_
    refine ev_if_lt (tgt := 54) dX10_sits_40 rfl h (fun cb h => ?_) (fun cb h => ?_)
    · exact ev_sub (L2 := [(2, (0 : Int)), (9, 0), (9, 0), (9, 0), (9, 0), (9, 0), (9, 0)]) (e_X10_sits_54 v5.2 h) ⟨.inr rfl, .inl rfl, .inl rfl, .inl rfl, .inl rfl, .inl rfl, .inl rfl, trivial⟩
    refine ev_iload_n dX10_sits_43 rfl ?_
    refine ev_aload dX10_sits_44 rfl (pW hw7).1 ?_
    refine ev_getf (j := 4) (t := 2) (x := (v5.1 + 5)) dX10_sits_46 cf_X8 wf_X10_288 (sW hw7) (pW hw7).1 (pW hw7).2 rfl (by decide) (rW4 _ hw7) ?_
    refine ev_iload_n dX10_sits_49 rfl ?_
    refine ev_iald dX10_sits_50 (sW4 hw7) (pW4 hw7).1 (pW4 hw7).2 h (fun h => ?_)
    refine ev_icmp_lt (tgt := 61) dX10_sits_51 rfl h (fun cb h => ?_) (fun cb h => ?_)
    · refine ev_iload_n dX10_sits_61 rfl ?_
      refine ev_iconst dX10_sits_62 (by decide) ?_
      refine ev_imul dX10_sits_63 ?_
      refine ev_iload_n dX10_sits_64 rfl ?_
      refine ev_iadd dX10_sits_65 ?_
      refine ev_istoreG dX10_sits_66 h rfl (by decide) (fun v8 h => ?_)
      show Ev _ _ _ _ 68 _ _ _ [(2, (0 : Int)), (0, x1), (0, x2), (0, x3), (0, x4), (2, v5.1), (0, v8)] _
      refine ev_iload dX10_sits_68 rfl ?_
      refine ev_by h (fun cs h => ?_) (fun cs0 h => ?_)
      · refine ev_tswIn (off := 26) (tgt := 96) dX10_sits_70 (by rw [cs]; decide) (by rw [cs]; decide) (by rw [cs]; rfl) rfl ?_
        refine ev_aload dX10_sits_96 rfl (pW hw7).1 ?_
        refine ev_getf (j := 6) (t := 2) (x := (v5.1 + 7)) dX10_sits_98 cf_X8 wf_X10_295 (sW hw7) (pW hw7).1 (pW hw7).2 rfl (by decide) (rW6 _ hw7) ?_
        refine ev_iload dX10_sits_101 rfl ?_
        refine ev_iald dX10_sits_103 (sW6 hw7) (pW6 hw7).1 (pW6 hw7).2 h (fun h => ?_)
        obtain rfl := Option.some.inj h
        dsimp only
        exact ev_iret dX10_sits_104 rfl rfl
      refine ev_by h (fun cs h => ?_) (fun cs1 h => ?_)
      · refine ev_tswIn (off := 35) (tgt := 105) dX10_sits_70 (by rw [cs]; decide) (by rw [cs]; decide) (by rw [cs]; rfl) rfl ?_
        refine ev_aload dX10_sits_105 rfl (pW hw7).1 ?_
        refine ev_getf (j := 7) (t := 2) (x := (v5.1 + 8)) dX10_sits_107 cf_X8 wf_X10_298 (sW hw7) (pW hw7).1 (pW hw7).2 rfl (by decide) (rW7 _ hw7) ?_
        refine ev_iload dX10_sits_110 rfl ?_
        refine ev_iald dX10_sits_112 (sW7 hw7) (pW7 hw7).1 (pW7 hw7).2 h (fun h => ?_)
        obtain rfl := Option.some.inj h
        dsimp only
        exact ev_iret dX10_sits_113 rfl rfl
      refine ev_by h (fun cs h => ?_) (fun cs2 h => ?_)
      · refine ev_tswIn (off := 44) (tgt := 114) dX10_sits_70 (by rw [cs]; decide) (by rw [cs]; decide) (by rw [cs]; rfl) rfl ?_
        refine ev_aload dX10_sits_114 rfl (pW hw7).1 ?_
        refine ev_getf (j := 8) (t := 2) (x := (v5.1 + 9)) dX10_sits_116 cf_X8 wf_X10_301 (sW hw7) (pW hw7).1 (pW hw7).2 rfl (by decide) (rW8 _ hw7) ?_
        refine ev_iload dX10_sits_119 rfl ?_
        refine ev_iald dX10_sits_121 (sW8 hw7) (pW8 hw7).1 (pW8 hw7).2 h (fun h => ?_)
        obtain rfl := Option.some.inj h
        dsimp only
        exact ev_iret dX10_sits_122 rfl rfl
      refine ev_tswOut (tgt := 123) dX10_sits_70 (by omega) rfl ?_
      refine ev_aload_n dX10_sits_123 rfl (by decide) ?_
      refine ev_bipush dX10_sits_124 (by decide) (by decide) ?_
      obtain ⟨v9, hc10, h⟩ := bind_of h
      refine ev_invV_v (k := (0 : Int)) (av := [(0, (-52 : Int))]) (st := []) (v := (0, v9.1)) (τ := v9.2) dX10_sits_126 ml_X10_88 mv_X10_refuse (T := TX10) (ci := 9) rfl sp0 (by decide) (by decide) rfl ⟨Nat.le_of_ble_eq_true rfl, Nat.le_of_ble_eq_true rfl⟩ (Nat.le_of_ble_eq_true rfl) (c_X10_refuse hc10) ?_
      obtain rfl := Option.some.inj h
      dsimp only
      exact ev_iret dX10_sits_129 rfl rfl
    exact ev_sub (L2 := [(2, (0 : Int)), (9, 0), (9, 0), (9, 0), (9, 0), (9, 0), (9, 0)]) (e_X10_sits_54 v5.2 h) ⟨.inr rfl, .inl rfl, .inl rfl, .inl rfl, .inl rfl, .inl rfl, .inl rfl, trivial⟩
  exact ev_sub (L2 := [(2, (0 : Int)), (9, 0), (9, 0), (9, 0), (9, 0), (9, 0), (9, 0)]) (e_X10_sits_18 σ h) ⟨.inr rfl, .inl rfl, .inl rfl, .inl rfl, .inl rfl, .inl rfl, .inl rfl, trivial⟩
set_option maxHeartbeats 4000000 in
set_option maxRecDepth 20000 in
theorem e_X10_does_25 (σ : Mem)  {q : (Int × Mem)} (h : f_X10_does_25 σ  = some q) : Ev M_X10_does 218 218 (some (0, q.1), rho, q.2) 25 218 rho σ [(2, (0 : Int)), (9, 0), (9, 0), (9, 0)] [] := by
  unfold f_X10_does_25 at h
  refine ev_aload_n dX10_does_25 rfl (by decide) ?_
  refine ev_bipush dX10_does_26 (by decide) (by decide) ?_
  obtain ⟨v12, hc13, h⟩ := bind_of h
  refine ev_invV_v (k := (0 : Int)) (av := [(0, (-52 : Int))]) (st := []) (v := (0, v12.1)) (τ := v12.2) dX10_does_28 ml_X10_88 mv_X10_refuse (T := TX10) (ci := 9) rfl sp0 (by decide) (by decide) rfl ⟨Nat.le_of_ble_eq_true rfl, Nat.le_of_ble_eq_true rfl⟩ (Nat.le_of_ble_eq_true rfl) (c_X10_refuse hc13) ?_
  obtain rfl := Option.some.inj h
  dsimp only
  exact ev_iret dX10_does_31 rfl rfl
set_option maxHeartbeats 4000000 in
set_option maxRecDepth 20000 in
theorem c_X10_does {σ : Mem} {x1 x2 x3 : Int}  {q : (Int × Mem)} (h : f_X10_does σ x1 x2 x3 = some q) : Ms yX10_does M_X10_does 218 218 [(2, (0 : Int)), (0, x1), (0, x2), (0, x3)] rho σ (some (0, q.1), rho, q.2) := by
  refine Ms.of 0 (by decide +kernel) rfl (fun z => absurd z (by decide)) (fun _ _ _ => trivial) rfl rfl ?_
  unfold f_X10_does at h
  show Ev M_X10_does 218 218 _ 0 218 rho σ [(2, (0 : Int)), (0, x1), (0, x2), (0, x3)] []
  refine ev_aload_n dX10_does_0 rfl (by decide) ?_
  refine ev_getf (j := 0) (t := 2) (x := (1 : Int)) dX10_does_1 cf_X10 wf_X10_12 sp0 (by decide) (by decide) rfl (by decide) (rp0_0 _) ?_
  refine ev_iload_n dX10_does_4 rfl ?_
  obtain ⟨v1, hc2, h⟩ := bind_of h
  refine ev_invV_v (k := (1 : Int)) (av := [(0, x1)]) (st := []) (v := (0, v1)) (τ := σ) dX10_does_5 ml_X10_122 mv_X0_hasCand (T := TX0) (ci := 0) rfl sp1 (by decide) (by decide) rfl ⟨Nat.le_of_ble_eq_true rfl, Nat.le_of_ble_eq_true rfl⟩ (Nat.le_of_ble_eq_true rfl) (c_X0_hasCand hB1 hc2) ?_
  refine ev_if_eq (tgt := 25) dX10_does_8 rfl h (fun cb h => ?_) (fun cb h => ?_)
  · exact ev_sub (L2 := [(2, (0 : Int)), (9, 0), (9, 0), (9, 0)]) (e_X10_does_25 σ h) ⟨.inr rfl, .inl rfl, .inl rfl, .inl rfl, trivial⟩
  refine ev_iload_n dX10_does_11 rfl ?_
  obtain ⟨v3, hc4, h⟩ := bind_of h
  refine ev_invS_v (av := [(0, x2)]) (st := []) (v := (0, v3)) (τ := σ) dX10_does_12 ml_X10_150 mt_X10_isDay rfl ⟨Nat.le_of_ble_eq_true rfl, Nat.le_of_ble_eq_true rfl⟩ (Nat.le_of_ble_eq_true rfl) (c_X10_isDay hc4) ?_
  refine ev_if_eq (tgt := 25) dX10_does_15 rfl h (fun cb h => ?_) (fun cb h => ?_)
  · exact ev_sub (L2 := [(2, (0 : Int)), (9, 0), (9, 0), (9, 0)]) (e_X10_does_25 σ h) ⟨.inr rfl, .inl rfl, .inl rfl, .inl rfl, trivial⟩
  refine ev_iload_n dX10_does_18 rfl ?_
  obtain ⟨v5, hc6, h⟩ := bind_of h
  refine ev_invS_v (av := [(0, x3)]) (st := []) (v := (0, v5)) (τ := σ) dX10_does_19 ml_X10_153 mt_X10_isSlot rfl ⟨Nat.le_of_ble_eq_true rfl, Nat.le_of_ble_eq_true rfl⟩ (Nat.le_of_ble_eq_true rfl) (c_X10_isSlot hc6) ?_
  refine ev_if_ne (tgt := 32) dX10_does_22 rfl h (fun cb h => ?_) (fun cb h => ?_)
  · refine ev_aload_n dX10_does_32 rfl (by decide) ?_
    refine ev_getf (j := 8) (t := 2) (x := (43 : Int)) dX10_does_33 cf_X10 wf_X10_50 sp0 (by decide) (by decide) rfl (by decide) (rp0_8 _) ?_
    refine ev_aload_n dX10_does_36 rfl (by decide) ?_
    refine ev_getf (j := 0) (t := 2) (x := (1 : Int)) dX10_does_37 cf_X10 wf_X10_12 sp0 (by decide) (by decide) rfl (by decide) (rp0_0 _) ?_
    refine ev_iload_n dX10_does_40 rfl ?_
    obtain ⟨v7, hc8, h⟩ := bind_of h
    refine ev_invV_v (k := (43 : Int)) (av := [(2, (1 : Int)), (0, x1)]) (st := []) (v := (2, v7.1)) (τ := v7.2) dX10_does_41 ml_X10_243 mv_X9_of (T := TX9) (ci := 8) rfl sp43 (by decide) (by decide) rfl ⟨Nat.le_of_ble_eq_true rfl, Nat.le_of_ble_eq_true rfl⟩ (Nat.le_of_ble_eq_true rfl) (c_X9_of hc8) ?_
    have hw9 := w_X9_of hc8
    refine ev_iload_n dX10_does_44 rfl ?_
    refine ev_iload_n dX10_does_45 rfl ?_
    obtain ⟨v10, hc11, h⟩ := bind_of h
    refine ev_invV_v (k := v7.1) (av := [(0, x2), (0, x3)]) (st := []) (v := (0, v10)) (τ := v7.2) dX10_does_46 ml_X10_304 mv_X8_deed (T := TX8) (ci := 7) rfl (sW hw9) (pW hw9).1 (pW hw9).2 rfl ⟨Nat.le_of_ble_eq_true rfl, Nat.le_of_ble_eq_true rfl⟩ (Nat.le_of_ble_eq_true rfl) (c_X8_deed hw9 hc11) ?_
    obtain rfl := Option.some.inj h
    dsimp only
    exact ev_iret dX10_does_49 rfl rfl
  exact ev_sub (L2 := [(2, (0 : Int)), (9, 0), (9, 0), (9, 0)]) (e_X10_does_25 σ h) ⟨.inr rfl, .inl rfl, .inl rfl, .inl rfl, trivial⟩
set_option maxHeartbeats 4000000 in
set_option maxRecDepth 20000 in
theorem c_X10_isMeasure {σ : Mem} {x0 : Int}  {q : Int} (h : f_X10_isMeasure σ x0 = some q) : Ms yX10_isMeasure M_X10_isMeasure 218 218 [(0, x0)] rho σ (some (0, q), rho, σ) := by
  refine Ms.of 0 (by decide +kernel) rfl (fun z => absurd z (by decide)) (fun _ _ _ => trivial) rfl rfl ?_
  unfold f_X10_isMeasure at h
  show Ev M_X10_isMeasure 218 218 _ 0 218 rho σ [(0, x0)] []
  refine ev_iload_n dX10_isMeasure_0 rfl ?_
  refine ev_if_lt (tgt := 13) dX10_isMeasure_1 rfl h (fun cb h => ?_) (fun cb h => ?_)
  · refine ev_iconst dX10_isMeasure_13 (by decide) ?_
    obtain rfl := Option.some.inj h
    exact ev_zret dX10_isMeasure_14 rfl (chk_pos (.inl rfl))
  refine ev_iload_n dX10_isMeasure_4 rfl ?_
  refine ev_iconst dX10_isMeasure_5 (by decide) ?_
  refine ev_icmp_ge (tgt := 13) dX10_isMeasure_6 rfl h (fun cb h => ?_) (fun cb h => ?_)
  · refine ev_iconst dX10_isMeasure_13 (by decide) ?_
    obtain rfl := Option.some.inj h
    exact ev_zret dX10_isMeasure_14 rfl (chk_pos (.inl rfl))
  refine ev_iconst dX10_isMeasure_9 (by decide) ?_
  refine ev_goto (tgt := 14) dX10_isMeasure_10 rfl ?_
  obtain rfl := Option.some.inj h
  exact ev_zret dX10_isMeasure_14 rfl (chk_pos (.inr rfl))
set_option maxHeartbeats 4000000 in
set_option maxRecDepth 20000 in
theorem e_X10_measure_25 (σ : Mem)  {q : (Int × Mem)} (h : f_X10_measure_25 σ  = some q) : Ev M_X10_measure 218 218 (some (0, q.1), rho, q.2) 25 218 rho σ [(2, (0 : Int)), (9, 0), (9, 0), (9, 0), (9, 0)] [] := by
  unfold f_X10_measure_25 at h
  refine ev_aload_n dX10_measure_25 rfl (by decide) ?_
  refine ev_bipush dX10_measure_26 (by decide) (by decide) ?_
  obtain ⟨v12, hc13, h⟩ := bind_of h
  refine ev_invV_v (k := (0 : Int)) (av := [(0, (-52 : Int))]) (st := []) (v := (0, v12.1)) (τ := v12.2) dX10_measure_28 ml_X10_88 mv_X10_refuse (T := TX10) (ci := 9) rfl sp0 (by decide) (by decide) rfl ⟨Nat.le_of_ble_eq_true rfl, Nat.le_of_ble_eq_true rfl⟩ (Nat.le_of_ble_eq_true rfl) (c_X10_refuse hc13) ?_
  obtain rfl := Option.some.inj h
  dsimp only
  exact ev_iret dX10_measure_31 rfl rfl
set_option maxHeartbeats 4000000 in
set_option maxRecDepth 20000 in
theorem e_X10_measure_77 (σ : Mem)  {q : (Int × Mem)} (h : f_X10_measure_77 σ  = some q) : Ev M_X10_measure 218 218 (some (0, q.1), rho, q.2) 77 218 rho σ [(2, (0 : Int)), (9, 0), (9, 0), (9, 0), (9, 0)] [] := by
  unfold f_X10_measure_77 at h
  refine ev_aload_n dX10_measure_77 rfl (by decide) ?_
  refine ev_bipush dX10_measure_78 (by decide) (by decide) ?_
  obtain ⟨v14, hc15, h⟩ := bind_of h
  refine ev_invV_v (k := (0 : Int)) (av := [(0, (-55 : Int))]) (st := []) (v := (0, v14.1)) (τ := v14.2) dX10_measure_80 ml_X10_88 mv_X10_refuse (T := TX10) (ci := 9) rfl sp0 (by decide) (by decide) rfl ⟨Nat.le_of_ble_eq_true rfl, Nat.le_of_ble_eq_true rfl⟩ (Nat.le_of_ble_eq_true rfl) (c_X10_refuse hc15) ?_
  obtain rfl := Option.some.inj h
  dsimp only
  exact ev_iret dX10_measure_83 rfl rfl
set_option maxHeartbeats 4000000 in
set_option maxRecDepth 20000 in
theorem c_X10_measure {σ : Mem} {x1 x2 x3 : Int}  {q : (Int × Mem)} (h : f_X10_measure σ x1 x2 x3 = some q) : Ms yX10_measure M_X10_measure 218 218 [(2, (0 : Int)), (0, x1), (0, x2), (0, x3)] rho σ (some (0, q.1), rho, q.2) := by
  refine Ms.of 1 (by decide +kernel) rfl (fun z => absurd z (by decide)) (fun _ _ _ => trivial) rfl rfl ?_
  unfold f_X10_measure at h
  show Ev M_X10_measure 218 218 _ 0 218 rho σ [(2, (0 : Int)), (0, x1), (0, x2), (0, x3), (9, 0)] []
  refine ev_aload_n dX10_measure_0 rfl (by decide) ?_
  refine ev_getf (j := 0) (t := 2) (x := (1 : Int)) dX10_measure_1 cf_X10 wf_X10_12 sp0 (by decide) (by decide) rfl (by decide) (rp0_0 _) ?_
  refine ev_iload_n dX10_measure_4 rfl ?_
  obtain ⟨v1, hc2, h⟩ := bind_of h
  refine ev_invV_v (k := (1 : Int)) (av := [(0, x1)]) (st := []) (v := (0, v1)) (τ := σ) dX10_measure_5 ml_X10_122 mv_X0_hasCand (T := TX0) (ci := 0) rfl sp1 (by decide) (by decide) rfl ⟨Nat.le_of_ble_eq_true rfl, Nat.le_of_ble_eq_true rfl⟩ (Nat.le_of_ble_eq_true rfl) (c_X0_hasCand hB1 hc2) ?_
  refine ev_if_eq (tgt := 25) dX10_measure_8 rfl h (fun cb h => ?_) (fun cb h => ?_)
  · exact ev_sub (L2 := [(2, (0 : Int)), (9, 0), (9, 0), (9, 0), (9, 0)]) (e_X10_measure_25 σ h) ⟨.inr rfl, .inl rfl, .inl rfl, .inl rfl, .inl rfl, trivial⟩
  refine ev_iload_n dX10_measure_11 rfl ?_
  obtain ⟨v3, hc4, h⟩ := bind_of h
  refine ev_invS_v (av := [(0, x2)]) (st := []) (v := (0, v3)) (τ := σ) dX10_measure_12 ml_X10_150 mt_X10_isDay rfl ⟨Nat.le_of_ble_eq_true rfl, Nat.le_of_ble_eq_true rfl⟩ (Nat.le_of_ble_eq_true rfl) (c_X10_isDay hc4) ?_
  refine ev_if_eq (tgt := 25) dX10_measure_15 rfl h (fun cb h => ?_) (fun cb h => ?_)
  · exact ev_sub (L2 := [(2, (0 : Int)), (9, 0), (9, 0), (9, 0), (9, 0)]) (e_X10_measure_25 σ h) ⟨.inr rfl, .inl rfl, .inl rfl, .inl rfl, .inl rfl, trivial⟩
  refine ev_iload_n dX10_measure_18 rfl ?_
  obtain ⟨v5, hc6, h⟩ := bind_of h
  refine ev_invS_v (av := [(0, x3)]) (st := []) (v := (0, v5)) (τ := σ) dX10_measure_19 ml_X10_307 mt_X10_isMeasure rfl ⟨Nat.le_of_ble_eq_true rfl, Nat.le_of_ble_eq_true rfl⟩ (Nat.le_of_ble_eq_true rfl) (c_X10_isMeasure hc6) ?_
  refine ev_if_ne (tgt := 32) dX10_measure_22 rfl h (fun cb h => ?_) (fun cb h => ?_)
  · refine ev_aload_n dX10_measure_32 rfl (by decide) ?_
    refine ev_getf (j := 8) (t := 2) (x := (43 : Int)) dX10_measure_33 cf_X10 wf_X10_50 sp0 (by decide) (by decide) rfl (by decide) (rp0_8 _) ?_
    refine ev_aload_n dX10_measure_36 rfl (by decide) ?_
    refine ev_getf (j := 0) (t := 2) (x := (1 : Int)) dX10_measure_37 cf_X10 wf_X10_12 sp0 (by decide) (by decide) rfl (by decide) (rp0_0 _) ?_
    refine ev_iload_n dX10_measure_40 rfl ?_
    obtain ⟨v7, hc8, h⟩ := bind_of h
    refine ev_invV_v (k := (43 : Int)) (av := [(2, (1 : Int)), (0, x1)]) (st := []) (v := (2, v7.1)) (τ := v7.2) dX10_measure_41 ml_X10_243 mv_X9_of (T := TX9) (ci := 8) rfl sp43 (by decide) (by decide) rfl ⟨Nat.le_of_ble_eq_true rfl, Nat.le_of_ble_eq_true rfl⟩ (Nat.le_of_ble_eq_true rfl) (c_X9_of hc8) ?_
    have hw9 := w_X9_of hc8
    refine ev_astore dX10_measure_44 rfl (by decide) (pW hw9).1 ?_
    show Ev _ _ _ _ 46 _ _ _ [(2, (0 : Int)), (0, x1), (0, x2), (0, x3), (2, v7.1)] _
    refine ev_aload dX10_measure_46 rfl (pW hw9).1 ?_
    refine ev_getf (j := 0) (t := 2) (x := (v7.1 + 1)) dX10_measure_48 cf_X8 wf_X10_265 (sW hw9) (pW hw9).1 (pW hw9).2 rfl (by decide) (rW0 _ hw9) ?_
    refine ev_iload_n dX10_measure_51 rfl ?_
    refine ev_zald dX10_measure_52 (sW0 hw9) (pW0 hw9).1 (pW0 hw9).2 h (fun h => ?_)
    show Ev _ _ _ _ 53 _ _ _ _ _
    refine ev_if_eq (tgt := 77) dX10_measure_53 rfl h (fun cb h => ?_) (fun cb h => ?_)
    · exact ev_sub (L2 := [(2, (0 : Int)), (9, 0), (9, 0), (9, 0), (9, 0)]) (e_X10_measure_77 v7.2 h) ⟨.inr rfl, .inl rfl, .inl rfl, .inl rfl, .inl rfl, trivial⟩
    refine ev_aload dX10_measure_56 rfl (pW hw9).1 ?_
    refine ev_getf (j := 1) (t := 2) (x := (v7.1 + 2)) dX10_measure_58 cf_X8 wf_X10_279 (sW hw9) (pW hw9).1 (pW hw9).2 rfl (by decide) (rW1 _ hw9) ?_
    refine ev_iload_n dX10_measure_61 rfl ?_
    refine ev_iald dX10_measure_62 (sW1 hw9) (pW1 hw9).1 (pW1 hw9).2 h (fun h => ?_)
    refine ev_iconst dX10_measure_63 (by decide) ?_
    refine ev_icmp_ne (tgt := 77) dX10_measure_64 rfl h (fun cb h => ?_) (fun cb h => ?_)
    · exact ev_sub (L2 := [(2, (0 : Int)), (9, 0), (9, 0), (9, 0), (9, 0)]) (e_X10_measure_77 v7.2 h) ⟨.inr rfl, .inl rfl, .inl rfl, .inl rfl, .inl rfl, trivial⟩
    refine ev_aload dX10_measure_67 rfl (pW hw9).1 ?_
    refine ev_getf (j := 4) (t := 2) (x := (v7.1 + 5)) dX10_measure_69 cf_X8 wf_X10_288 (sW hw9) (pW hw9).1 (pW hw9).2 rfl (by decide) (rW4 _ hw9) ?_
    refine ev_iload_n dX10_measure_72 rfl ?_
    refine ev_iald dX10_measure_73 (sW4 hw9) (pW4 hw9).1 (pW4 hw9).2 h (fun h => ?_)
    refine ev_if_ne (tgt := 84) dX10_measure_74 rfl h (fun cb h => ?_) (fun cb h => ?_)
    · refine ev_aload dX10_measure_84 rfl (pW hw9).1 ?_
      refine ev_aload_n dX10_measure_86 rfl (by decide) ?_
      refine ev_getf (j := 0) (t := 2) (x := (1 : Int)) dX10_measure_87 cf_X10 wf_X10_12 sp0 (by decide) (by decide) rfl (by decide) (rp0_0 _) ?_
      refine ev_iload_n dX10_measure_90 rfl ?_
      refine ev_iload_n dX10_measure_91 rfl ?_
      obtain ⟨v10, hc11, h⟩ := bind_of h
      refine ev_invV_v (k := v7.1) (av := [(2, (1 : Int)), (0, x2), (0, x3)]) (st := []) (v := (0, v10)) (τ := v7.2) dX10_measure_92 ml_X10_310 mv_X8_measured (T := TX8) (ci := 7) rfl (sW hw9) (pW hw9).1 (pW hw9).2 rfl ⟨Nat.le_of_ble_eq_true rfl, Nat.le_of_ble_eq_true rfl⟩ (Nat.le_of_ble_eq_true rfl) (c_X8_measured hw9 hB1 hc11) ?_
      obtain rfl := Option.some.inj h
      dsimp only
      exact ev_iret dX10_measure_95 rfl rfl
    exact ev_sub (L2 := [(2, (0 : Int)), (9, 0), (9, 0), (9, 0), (9, 0)]) (e_X10_measure_77 v7.2 h) ⟨.inr rfl, .inl rfl, .inl rfl, .inl rfl, .inl rfl, trivial⟩
  exact ev_sub (L2 := [(2, (0 : Int)), (9, 0), (9, 0), (9, 0), (9, 0)]) (e_X10_measure_25 σ h) ⟨.inr rfl, .inl rfl, .inl rfl, .inl rfl, .inl rfl, trivial⟩
set_option maxHeartbeats 4000000 in
set_option maxRecDepth 20000 in
theorem e_X10_best_25 (σ : Mem)  {q : (Int × Mem)} (h : f_X10_best_25 σ  = some q) : Ev M_X10_best 218 218 (some (0, q.1), rho, q.2) 25 218 rho σ [(2, (0 : Int)), (9, 0), (9, 0), (9, 0), (9, 0), (9, 0)] [] := by
  unfold f_X10_best_25 at h
  refine ev_aload_n dX10_best_25 rfl (by decide) ?_
  refine ev_bipush dX10_best_26 (by decide) (by decide) ?_
  obtain ⟨v22, hc23, h⟩ := bind_of h
  refine ev_invV_v (k := (0 : Int)) (av := [(0, (-52 : Int))]) (st := []) (v := (0, v22.1)) (τ := v22.2) dX10_best_28 ml_X10_88 mv_X10_refuse (T := TX10) (ci := 9) rfl sp0 (by decide) (by decide) rfl ⟨Nat.le_of_ble_eq_true rfl, Nat.le_of_ble_eq_true rfl⟩ (Nat.le_of_ble_eq_true rfl) (c_X10_refuse hc23) ?_
  obtain rfl := Option.some.inj h
  dsimp only
  exact ev_iret dX10_best_31 rfl rfl
set_option maxHeartbeats 4000000 in
set_option maxRecDepth 20000 in
theorem e_X10_best_106 (σ : Mem)  {q : (Int × Mem)} (h : f_X10_best_106 σ  = some q) : Ev M_X10_best 218 218 (some (0, q.1), rho, q.2) 106 218 rho σ [(2, (0 : Int)), (9, 0), (9, 0), (9, 0), (9, 0), (9, 0)] [] := by
  unfold f_X10_best_106 at h
  refine ev_aload_n dX10_best_106 rfl (by decide) ?_
  refine ev_bipush dX10_best_107 (by decide) (by decide) ?_
  obtain ⟨v24, hc25, h⟩ := bind_of h
  refine ev_invV_v (k := (0 : Int)) (av := [(0, (-52 : Int))]) (st := []) (v := (0, v24.1)) (τ := v24.2) dX10_best_109 ml_X10_88 mv_X10_refuse (T := TX10) (ci := 9) rfl sp0 (by decide) (by decide) rfl ⟨Nat.le_of_ble_eq_true rfl, Nat.le_of_ble_eq_true rfl⟩ (Nat.le_of_ble_eq_true rfl) (c_X10_refuse hc25) ?_
  obtain rfl := Option.some.inj h
  dsimp only
  exact ev_iret dX10_best_112 rfl rfl
set_option maxHeartbeats 4000000 in
set_option maxRecDepth 20000 in
theorem c_X10_best {σ : Mem} {x1 x2 x3 x4 : Int}  {q : (Int × Mem)} (h : f_X10_best σ x1 x2 x3 x4 = some q) : Ms yX10_best M_X10_best 218 218 [(2, (0 : Int)), (0, x1), (0, x2), (0, x3), (0, x4)] rho σ (some (0, q.1), rho, q.2) := by
  refine Ms.of 1 (by decide +kernel) rfl (fun z => absurd z (by decide)) (fun _ _ _ => trivial) rfl rfl ?_
  unfold f_X10_best at h
  show Ev M_X10_best 218 218 _ 0 218 rho σ [(2, (0 : Int)), (0, x1), (0, x2), (0, x3), (0, x4), (9, 0)] []
  refine ev_aload_n dX10_best_0 rfl (by decide) ?_
  refine ev_getf (j := 0) (t := 2) (x := (1 : Int)) dX10_best_1 cf_X10 wf_X10_12 sp0 (by decide) (by decide) rfl (by decide) (rp0_0 _) ?_
  refine ev_iload_n dX10_best_4 rfl ?_
  obtain ⟨v1, hc2, h⟩ := bind_of h
  refine ev_invV_v (k := (1 : Int)) (av := [(0, x1)]) (st := []) (v := (0, v1)) (τ := σ) dX10_best_5 ml_X10_122 mv_X0_hasCand (T := TX0) (ci := 0) rfl sp1 (by decide) (by decide) rfl ⟨Nat.le_of_ble_eq_true rfl, Nat.le_of_ble_eq_true rfl⟩ (Nat.le_of_ble_eq_true rfl) (c_X0_hasCand hB1 hc2) ?_
  refine ev_if_eq (tgt := 25) dX10_best_8 rfl h (fun cb h => ?_) (fun cb h => ?_)
  · exact ev_sub (L2 := [(2, (0 : Int)), (9, 0), (9, 0), (9, 0), (9, 0), (9, 0)]) (e_X10_best_25 σ h) ⟨.inr rfl, .inl rfl, .inl rfl, .inl rfl, .inl rfl, .inl rfl, trivial⟩
  refine ev_iload_n dX10_best_11 rfl ?_
  obtain ⟨v3, hc4, h⟩ := bind_of h
  refine ev_invS_v (av := [(0, x2)]) (st := []) (v := (0, v3)) (τ := σ) dX10_best_12 ml_X10_150 mt_X10_isDay rfl ⟨Nat.le_of_ble_eq_true rfl, Nat.le_of_ble_eq_true rfl⟩ (Nat.le_of_ble_eq_true rfl) (c_X10_isDay hc4) ?_
  refine ev_if_eq (tgt := 25) dX10_best_15 rfl h (fun cb h => ?_) (fun cb h => ?_)
  · exact ev_sub (L2 := [(2, (0 : Int)), (9, 0), (9, 0), (9, 0), (9, 0), (9, 0)]) (e_X10_best_25 σ h) ⟨.inr rfl, .inl rfl, .inl rfl, .inl rfl, .inl rfl, .inl rfl, trivial⟩
  refine ev_iload_n dX10_best_18 rfl ?_
  obtain ⟨v5, hc6, h⟩ := bind_of h
  refine ev_invS_v (av := [(0, x3)]) (st := []) (v := (0, v5)) (τ := σ) dX10_best_19 ml_X10_307 mt_X10_isMeasure rfl ⟨Nat.le_of_ble_eq_true rfl, Nat.le_of_ble_eq_true rfl⟩ (Nat.le_of_ble_eq_true rfl) (c_X10_isMeasure hc6) ?_
  refine ev_if_ne (tgt := 32) dX10_best_22 rfl h (fun cb h => ?_) (fun cb h => ?_)
  · refine ev_aload_n dX10_best_32 rfl (by decide) ?_
    refine ev_getf (j := 7) (t := 2) (x := (35 : Int)) dX10_best_33 cf_X10 wf_X10_43 sp0 (by decide) (by decide) rfl (by decide) (rp0_7 _) ?_
    refine ev_aload_n dX10_best_36 rfl (by decide) ?_
    refine ev_getf (j := 0) (t := 2) (x := (1 : Int)) dX10_best_37 cf_X10 wf_X10_12 sp0 (by decide) (by decide) rfl (by decide) (rp0_0 _) ?_
    refine ev_iload_n dX10_best_40 rfl ?_
    refine ev_iload_n dX10_best_41 rfl ?_
    refine ev_aload_n dX10_best_42 rfl (by decide) ?_
    refine ev_getf (j := 8) (t := 2) (x := (43 : Int)) dX10_best_43 cf_X10 wf_X10_50 sp0 (by decide) (by decide) rfl (by decide) (rp0_8 _) ?_
    refine ev_aload_n dX10_best_46 rfl (by decide) ?_
    refine ev_getf (j := 0) (t := 2) (x := (1 : Int)) dX10_best_47 cf_X10 wf_X10_12 sp0 (by decide) (by decide) rfl (by decide) (rp0_0 _) ?_
    refine ev_iload_n dX10_best_50 rfl ?_
    show Ev _ _ _ _ 51 _ _ _ _ _
    obtain ⟨v7, hc8, h⟩ := bind_of h
    refine ev_invV_v (k := (43 : Int)) (av := [(2, (1 : Int)), (0, x1)]) (st := [(0, x2), (0, x1), (2, (1 : Int)), (2, (35 : Int))]) (v := (2, v7.1)) (τ := v7.2) dX10_best_51 ml_X10_243 mv_X9_of (T := TX9) (ci := 8) rfl sp43 (by decide) (by decide) rfl ⟨Nat.le_of_ble_eq_true rfl, Nat.le_of_ble_eq_true rfl⟩ (Nat.le_of_ble_eq_true rfl) (c_X9_of hc8) ?_
    have hw9 := w_X9_of hc8
    obtain ⟨σ10, hc11, h⟩ := bind_of h
    refine ev_invV_v (k := (35 : Int)) (av := [(2, (1 : Int)), (0, x1), (0, x2), (2, v7.1)]) (st := []) (v := (2, (36 : Int))) (τ := σ10) dX10_best_54 ml_X10_314 mv_X4_ordersOf (T := TX4) (ci := 3) rfl sp35 (by decide) (by decide) rfl ⟨Nat.le_of_ble_eq_true rfl, Nat.le_of_ble_eq_true rfl⟩ (Nat.le_of_ble_eq_true rfl) (c_X4_ordersOf hB1 hw9 hc11) ?_
    refine ev_astore dX10_best_57 rfl (by decide) (by decide) ?_
    show Ev _ _ _ _ 59 _ _ _ [(2, (0 : Int)), (0, x1), (0, x2), (0, x3), (0, x4), (2, (36 : Int))] _
    refine ev_aload dX10_best_59 rfl (by decide) ?_
    obtain ⟨v12, hc13, h⟩ := bind_of h
    refine ev_invV_v (k := (36 : Int)) (av := []) (st := []) (v := (0, v12)) (τ := σ10) dX10_best_61 ml_X10_318 mv_X3_count (T := TX3) (ci := 2) rfl sp36 (by decide) (by decide) rfl ⟨Nat.le_of_ble_eq_true rfl, Nat.le_of_ble_eq_true rfl⟩ (Nat.le_of_ble_eq_true rfl) (c_X3_count hc13) ?_
    refine ev_if_eq (tgt := 77) dX10_best_64 rfl h (fun cb h => ?_) (fun cb h => ?_)
    · refine ev_iconst dX10_best_77 (by decide) ?_
      obtain rfl := Option.some.inj h
      dsimp only
      exact ev_iret dX10_best_78 rfl rfl
    refine ev_aload dX10_best_67 rfl (by decide) ?_
    refine ev_iload_n dX10_best_69 rfl ?_
    refine ev_lconst (x := (0 : Int)) dX10_best_70 (by decide) (by decide) ?_
    obtain ⟨v14, hc15, h⟩ := bind_of h
    refine ev_invV_v (k := (36 : Int)) (av := [(0, x3), (1, (0 : Int))]) (st := []) (v := (0, v14.1)) (τ := v14.2) dX10_best_71 ml_X10_322 mv_X3_search (T := TX3) (ci := 2) rfl sp36 (by decide) (by decide) rfl ⟨Nat.le_of_ble_eq_true rfl, Nat.le_of_ble_eq_true rfl⟩ (Nat.le_of_ble_eq_true rfl) (c_X3_search hc15) ?_
    refine ev_if_ne (tgt := 79) dX10_best_74 rfl h (fun cb h => ?_) (fun cb h => ?_)
    · refine ev_iload dX10_best_79 rfl ?_
      refine ev_iconst dX10_best_81 (by decide) ?_
      refine ev_icmp_ne (tgt := 91) dX10_best_82 rfl h (fun cb h => ?_) (fun cb h => ?_)
      · refine ev_iload dX10_best_91 rfl ?_
        refine ev_if_lt (tgt := 106) dX10_best_93 rfl h (fun cb h => ?_) (fun cb h => ?_)
        · exact ev_sub (L2 := [(2, (0 : Int)), (9, 0), (9, 0), (9, 0), (9, 0), (9, 0)]) (e_X10_best_106 v14.2 h) ⟨.inr rfl, .inl rfl, .inl rfl, .inl rfl, .inl rfl, .inl rfl, trivial⟩
        refine ev_iload dX10_best_96 rfl ?_
        refine ev_aload dX10_best_98 rfl (by decide) ?_
        obtain ⟨v16, hc17, h⟩ := bind_of h
        refine ev_invV_v (k := (36 : Int)) (av := []) (st := [(0, x4)]) (v := (0, v16)) (τ := v14.2) dX10_best_100 ml_X10_318 mv_X3_count (T := TX3) (ci := 2) rfl sp36 (by decide) (by decide) rfl ⟨Nat.le_of_ble_eq_true rfl, Nat.le_of_ble_eq_true rfl⟩ (Nat.le_of_ble_eq_true rfl) (c_X3_count hc17) ?_
        refine ev_icmp_lt (tgt := 113) dX10_best_103 rfl h (fun cb h => ?_) (fun cb h => ?_)
        · refine ev_aload dX10_best_113 rfl (by decide) ?_
          refine ev_iload dX10_best_115 rfl ?_
          obtain ⟨v18, hc19, h⟩ := bind_of h
          refine ev_invV_v (k := (36 : Int)) (av := [(0, x4)]) (st := []) (v := (0, v18)) (τ := v14.2) dX10_best_117 ml_X10_329 mv_X3_paperAt (T := TX3) (ci := 2) rfl sp36 (by decide) (by decide) rfl ⟨Nat.le_of_ble_eq_true rfl, Nat.le_of_ble_eq_true rfl⟩ (Nat.le_of_ble_eq_true rfl) (c_X3_paperAt hc19) ?_
          obtain rfl := Option.some.inj h
          dsimp only
          exact ev_iret dX10_best_120 rfl rfl
        exact ev_sub (L2 := [(2, (0 : Int)), (9, 0), (9, 0), (9, 0), (9, 0), (9, 0)]) (e_X10_best_106 v14.2 h) ⟨.inr rfl, .inl rfl, .inl rfl, .inl rfl, .inl rfl, .inl rfl, trivial⟩
      refine ev_aload dX10_best_85 rfl (by decide) ?_
      obtain ⟨v20, hc21, h⟩ := bind_of h
      refine ev_invV_v (k := (36 : Int)) (av := []) (st := []) (v := (0, v20)) (τ := v14.2) dX10_best_87 ml_X10_326 mv_X3_least (T := TX3) (ci := 2) rfl sp36 (by decide) (by decide) rfl ⟨Nat.le_of_ble_eq_true rfl, Nat.le_of_ble_eq_true rfl⟩ (Nat.le_of_ble_eq_true rfl) (c_X3_least hc21) ?_
      obtain rfl := Option.some.inj h
      dsimp only
      exact ev_iret dX10_best_90 rfl rfl
    refine ev_iconst dX10_best_77 (by decide) ?_
    obtain rfl := Option.some.inj h
    dsimp only
    exact ev_iret dX10_best_78 rfl rfl
  exact ev_sub (L2 := [(2, (0 : Int)), (9, 0), (9, 0), (9, 0), (9, 0), (9, 0)]) (e_X10_best_25 σ h) ⟨.inr rfl, .inl rfl, .inl rfl, .inl rfl, .inl rfl, .inl rfl, trivial⟩
set_option maxHeartbeats 4000000 in
set_option maxRecDepth 20000 in
theorem e_X10_lawful_18 (σ : Mem)  {q : (Int × Mem)} (h : f_X10_lawful_18 σ  = some q) : Ev M_X10_lawful 218 218 (some (0, q.1), rho, q.2) 18 218 rho σ [(2, (0 : Int)), (9, 0), (9, 0), (9, 0)] [] := by
  unfold f_X10_lawful_18 at h
  refine ev_aload_n dX10_lawful_18 rfl (by decide) ?_
  refine ev_bipush dX10_lawful_19 (by decide) (by decide) ?_
  obtain ⟨v14, hc15, h⟩ := bind_of h
  refine ev_invV_v (k := (0 : Int)) (av := [(0, (-52 : Int))]) (st := []) (v := (0, v14.1)) (τ := v14.2) dX10_lawful_21 ml_X10_88 mv_X10_refuse (T := TX10) (ci := 9) rfl sp0 (by decide) (by decide) rfl ⟨Nat.le_of_ble_eq_true rfl, Nat.le_of_ble_eq_true rfl⟩ (Nat.le_of_ble_eq_true rfl) (c_X10_refuse hc15) ?_
  obtain rfl := Option.some.inj h
  dsimp only
  exact ev_iret dX10_lawful_24 rfl rfl
set_option maxHeartbeats 4000000 in
set_option maxRecDepth 20000 in
theorem c_X10_lawful {σ : Mem} {x1 x2 : Int}  {q : (Int × Mem)} (h : f_X10_lawful σ x1 x2 = some q) : Ms yX10_lawful M_X10_lawful 218 218 [(2, (0 : Int)), (0, x1), (0, x2)] rho σ (some (0, q.1), rho, q.2) := by
  refine Ms.of 1 (by decide +kernel) rfl (fun z => absurd z (by decide)) (fun _ _ _ => trivial) rfl rfl ?_
  unfold f_X10_lawful at h
  show Ev M_X10_lawful 218 218 _ 0 218 rho σ [(2, (0 : Int)), (0, x1), (0, x2), (9, 0)] []
  refine ev_aload_n dX10_lawful_0 rfl (by decide) ?_
  refine ev_getf (j := 0) (t := 2) (x := (1 : Int)) dX10_lawful_1 cf_X10 wf_X10_12 sp0 (by decide) (by decide) rfl (by decide) (rp0_0 _) ?_
  refine ev_iload_n dX10_lawful_4 rfl ?_
  obtain ⟨v1, hc2, h⟩ := bind_of h
  refine ev_invV_v (k := (1 : Int)) (av := [(0, x1)]) (st := []) (v := (0, v1)) (τ := σ) dX10_lawful_5 ml_X10_122 mv_X0_hasCand (T := TX0) (ci := 0) rfl sp1 (by decide) (by decide) rfl ⟨Nat.le_of_ble_eq_true rfl, Nat.le_of_ble_eq_true rfl⟩ (Nat.le_of_ble_eq_true rfl) (c_X0_hasCand hB1 hc2) ?_
  refine ev_if_eq (tgt := 18) dX10_lawful_8 rfl h (fun cb h => ?_) (fun cb h => ?_)
  · exact ev_sub (L2 := [(2, (0 : Int)), (9, 0), (9, 0), (9, 0)]) (e_X10_lawful_18 σ h) ⟨.inr rfl, .inl rfl, .inl rfl, .inl rfl, trivial⟩
  refine ev_iload_n dX10_lawful_11 rfl ?_
  obtain ⟨v3, hc4, h⟩ := bind_of h
  refine ev_invS_v (av := [(0, x2)]) (st := []) (v := (0, v3)) (τ := σ) dX10_lawful_12 ml_X10_150 mt_X10_isDay rfl ⟨Nat.le_of_ble_eq_true rfl, Nat.le_of_ble_eq_true rfl⟩ (Nat.le_of_ble_eq_true rfl) (c_X10_isDay hc4) ?_
  refine ev_if_ne (tgt := 25) dX10_lawful_15 rfl h (fun cb h => ?_) (fun cb h => ?_)
  · refine ev_aload_n dX10_lawful_25 rfl (by decide) ?_
    refine ev_getf (j := 7) (t := 2) (x := (35 : Int)) dX10_lawful_26 cf_X10 wf_X10_43 sp0 (by decide) (by decide) rfl (by decide) (rp0_7 _) ?_
    refine ev_aload_n dX10_lawful_29 rfl (by decide) ?_
    refine ev_getf (j := 0) (t := 2) (x := (1 : Int)) dX10_lawful_30 cf_X10 wf_X10_12 sp0 (by decide) (by decide) rfl (by decide) (rp0_0 _) ?_
    refine ev_iload_n dX10_lawful_33 rfl ?_
    refine ev_iload_n dX10_lawful_34 rfl ?_
    refine ev_aload_n dX10_lawful_35 rfl (by decide) ?_
    refine ev_getf (j := 8) (t := 2) (x := (43 : Int)) dX10_lawful_36 cf_X10 wf_X10_50 sp0 (by decide) (by decide) rfl (by decide) (rp0_8 _) ?_
    refine ev_aload_n dX10_lawful_39 rfl (by decide) ?_
    refine ev_getf (j := 0) (t := 2) (x := (1 : Int)) dX10_lawful_40 cf_X10 wf_X10_12 sp0 (by decide) (by decide) rfl (by decide) (rp0_0 _) ?_
    refine ev_iload_n dX10_lawful_43 rfl ?_
    show Ev _ _ _ _ 44 _ _ _ _ _
    obtain ⟨v5, hc6, h⟩ := bind_of h
    refine ev_invV_v (k := (43 : Int)) (av := [(2, (1 : Int)), (0, x1)]) (st := [(0, x2), (0, x1), (2, (1 : Int)), (2, (35 : Int))]) (v := (2, v5.1)) (τ := v5.2) dX10_lawful_44 ml_X10_243 mv_X9_of (T := TX9) (ci := 8) rfl sp43 (by decide) (by decide) rfl ⟨Nat.le_of_ble_eq_true rfl, Nat.le_of_ble_eq_true rfl⟩ (Nat.le_of_ble_eq_true rfl) (c_X9_of hc6) ?_
    have hw7 := w_X9_of hc6
    obtain ⟨σ8, hc9, h⟩ := bind_of h
    refine ev_invV_v (k := (35 : Int)) (av := [(2, (1 : Int)), (0, x1), (0, x2), (2, v5.1)]) (st := []) (v := (2, (36 : Int))) (τ := σ8) dX10_lawful_47 ml_X10_314 mv_X4_ordersOf (T := TX4) (ci := 3) rfl sp35 (by decide) (by decide) rfl ⟨Nat.le_of_ble_eq_true rfl, Nat.le_of_ble_eq_true rfl⟩ (Nat.le_of_ble_eq_true rfl) (c_X4_ordersOf hB1 hw7 hc9) ?_
    refine ev_astore_n dX10_lawful_50 rfl (by decide) (by decide) ?_
    show Ev _ _ _ _ 51 _ _ _ [(2, (0 : Int)), (0, x1), (0, x2), (2, (36 : Int))] _
    refine ev_aload_n dX10_lawful_51 rfl (by decide) ?_
    refine ev_iconst dX10_lawful_52 (by decide) ?_
    refine ev_lconst (x := (0 : Int)) dX10_lawful_53 (by decide) (by decide) ?_
    obtain ⟨v10, hc11, h⟩ := bind_of h
    refine ev_invV_v (k := (36 : Int)) (av := [(0, (0 : Int)), (1, (0 : Int))]) (st := []) (v := (0, v10.1)) (τ := v10.2) dX10_lawful_54 ml_X10_322 mv_X3_search (T := TX3) (ci := 2) rfl sp36 (by decide) (by decide) rfl ⟨Nat.le_of_ble_eq_true rfl, Nat.le_of_ble_eq_true rfl⟩ (Nat.le_of_ble_eq_true rfl) (c_X3_search hc11) ?_
    refine ev_pop dX10_lawful_57 (show (0 : Nat) ≠ 1 by decide) ?_
    refine ev_aload_n dX10_lawful_58 rfl (by decide) ?_
    obtain ⟨v12, hc13, h⟩ := bind_of h
    refine ev_invV_v (k := (36 : Int)) (av := []) (st := []) (v := (0, v12)) (τ := v10.2) dX10_lawful_59 ml_X10_332 mv_X3_lawfulOnes (T := TX3) (ci := 2) rfl sp36 (by decide) (by decide) rfl ⟨Nat.le_of_ble_eq_true rfl, Nat.le_of_ble_eq_true rfl⟩ (Nat.le_of_ble_eq_true rfl) (c_X3_lawfulOnes hc13) ?_
    obtain rfl := Option.some.inj h
    dsimp only
    exact ev_iret dX10_lawful_62 rfl rfl
  exact ev_sub (L2 := [(2, (0 : Int)), (9, 0), (9, 0), (9, 0)]) (e_X10_lawful_18 σ h) ⟨.inr rfl, .inl rfl, .inl rfl, .inl rfl, trivial⟩
set_option maxHeartbeats 4000000 in
set_option maxRecDepth 20000 in
theorem e_X10_watch_9 (σ : Mem)  {q : (Int × Mem)} (h : f_X10_watch_9 σ  = some q) : Ev M_X10_watch 218 218 (some (0, q.1), rho, q.2) 9 218 rho σ [(2, (0 : Int)), (9, 0)] [] := by
  unfold f_X10_watch_9 at h
  refine ev_aload_n dX10_watch_9 rfl (by decide) ?_
  refine ev_bipush dX10_watch_10 (by decide) (by decide) ?_
  obtain ⟨v9, hc10, h⟩ := bind_of h
  refine ev_invV_v (k := (0 : Int)) (av := [(0, (-52 : Int))]) (st := []) (v := (0, v9.1)) (τ := v9.2) dX10_watch_12 ml_X10_88 mv_X10_refuse (T := TX10) (ci := 9) rfl sp0 (by decide) (by decide) rfl ⟨Nat.le_of_ble_eq_true rfl, Nat.le_of_ble_eq_true rfl⟩ (Nat.le_of_ble_eq_true rfl) (c_X10_refuse hc10) ?_
  obtain rfl := Option.some.inj h
  dsimp only
  exact ev_iret dX10_watch_15 rfl rfl
set_option maxHeartbeats 4000000 in
set_option maxRecDepth 20000 in
theorem c_X10_watch {σ : Mem} {x1 : Int}  {q : (Int × Mem)} (h : f_X10_watch σ x1 = some q) : Ms yX10_watch M_X10_watch 218 218 [(2, (0 : Int)), (0, x1)] rho σ (some (0, q.1), rho, q.2) := by
  refine Ms.of 0 (by decide +kernel) rfl (fun z => absurd z (by decide)) (fun _ _ _ => trivial) rfl rfl ?_
  unfold f_X10_watch at h
  show Ev M_X10_watch 218 218 _ 0 218 rho σ [(2, (0 : Int)), (0, x1)] []
  refine ev_iload_n dX10_watch_0 rfl ?_
  refine ev_if_lt (tgt := 9) dX10_watch_1 rfl h (fun cb h => ?_) (fun cb h => ?_)
  · exact ev_sub (L2 := [(2, (0 : Int)), (9, 0)]) (e_X10_watch_9 σ h) ⟨.inr rfl, .inl rfl, trivial⟩
  refine ev_iload_n dX10_watch_4 rfl ?_
  refine ev_iconst dX10_watch_5 (by decide) ?_
  refine ev_icmp_le (tgt := 16) dX10_watch_6 rfl h (fun cb h => ?_) (fun cb h => ?_)
  · refine ev_aload_n dX10_watch_16 rfl (by decide) ?_
    refine ev_getf (j := 10) (t := 2) (x := (164 : Int)) dX10_watch_17 cf_X10 wf_X10_64 sp0 (by decide) (by decide) rfl (by decide) (rp0_10 _) ?_
    refine ev_aload_n dX10_watch_20 rfl (by decide) ?_
    refine ev_getf (j := 0) (t := 2) (x := (1 : Int)) dX10_watch_21 cf_X10 wf_X10_12 sp0 (by decide) (by decide) rfl (by decide) (rp0_0 _) ?_
    refine ev_aload_n dX10_watch_24 rfl (by decide) ?_
    refine ev_getf (j := 8) (t := 2) (x := (43 : Int)) dX10_watch_25 cf_X10 wf_X10_50 sp0 (by decide) (by decide) rfl (by decide) (rp0_8 _) ?_
    obtain ⟨σ1, hc2, h⟩ := bind_of h
    refine ev_invV_n (k := (164 : Int)) (av := [(2, (1 : Int)), (2, (43 : Int))]) (st := []) (τ := σ1) dX10_watch_28 ml_X10_335 mv_X1_gather (T := TX1) (ci := 1) rfl sp164 (by decide) (by decide) rfl ⟨Nat.le_of_ble_eq_true rfl, Nat.le_of_ble_eq_true rfl⟩ (Nat.le_of_ble_eq_true rfl) (c_X1_gather hc2) ?_
    refine ev_iload_n dX10_watch_31 rfl ?_
    refine ev_by h (fun cs h => ?_) (fun cs0 h => ?_)
    · refine ev_lsw (off := 28) (tgt := 60) dX10_watch_32 (by decide) (by rw [cs]; rfl) rfl ?_
      refine ev_aload_n dX10_watch_60 rfl (by decide) ?_
      refine ev_getf (j := 10) (t := 2) (x := (164 : Int)) dX10_watch_61 cf_X10 wf_X10_64 sp0 (by decide) (by decide) rfl (by decide) (rp0_10 _) ?_
      obtain ⟨v3, hc4, h⟩ := bind_of h
      refine ev_invV_v (k := (164 : Int)) (av := []) (st := []) (v := (0, v3)) (τ := σ1) dX10_watch_64 ml_X10_339 mv_X1_count (T := TX1) (ci := 1) rfl sp164 (by decide) (by decide) rfl ⟨Nat.le_of_ble_eq_true rfl, Nat.le_of_ble_eq_true rfl⟩ (Nat.le_of_ble_eq_true rfl) (c_X1_count hc4) ?_
      obtain rfl := Option.some.inj h
      dsimp only
      exact ev_iret dX10_watch_67 rfl rfl
    refine ev_by h (fun cs h => ?_) (fun cs1 h => ?_)
    · refine ev_lsw (off := 36) (tgt := 68) dX10_watch_32 (by decide) (by rw [cs]; rfl) rfl ?_
      refine ev_aload_n dX10_watch_68 rfl (by decide) ?_
      refine ev_getf (j := 10) (t := 2) (x := (164 : Int)) dX10_watch_69 cf_X10 wf_X10_64 sp0 (by decide) (by decide) rfl (by decide) (rp0_10 _) ?_
      obtain ⟨v5, hc6, h⟩ := bind_of h
      refine ev_invV_v (k := (164 : Int)) (av := []) (st := []) (v := (0, v5)) (τ := σ1) dX10_watch_72 ml_X10_340 mv_X1_watchers (T := TX1) (ci := 1) rfl sp164 (by decide) (by decide) rfl ⟨Nat.le_of_ble_eq_true rfl, Nat.le_of_ble_eq_true rfl⟩ (Nat.le_of_ble_eq_true rfl) (c_X1_watchers hc6) ?_
      obtain rfl := Option.some.inj h
      dsimp only
      exact ev_iret dX10_watch_75 rfl rfl
    refine ev_lsw (off := 44) (tgt := 76) dX10_watch_32 (by decide) (by simp [Op.lookupswitch.offset, Ne.symm cs0, Ne.symm cs1, cs0, cs1]) rfl ?_
    refine ev_aload_n dX10_watch_76 rfl (by decide) ?_
    refine ev_getf (j := 10) (t := 2) (x := (164 : Int)) dX10_watch_77 cf_X10 wf_X10_64 sp0 (by decide) (by decide) rfl (by decide) (rp0_10 _) ?_
    obtain ⟨v7, hc8, h⟩ := bind_of h
    refine ev_invV_v (k := (164 : Int)) (av := []) (st := []) (v := (0, v7)) (τ := σ1) dX10_watch_80 ml_X10_343 mv_X1_atOnce (T := TX1) (ci := 1) rfl sp164 (by decide) (by decide) rfl ⟨Nat.le_of_ble_eq_true rfl, Nat.le_of_ble_eq_true rfl⟩ (Nat.le_of_ble_eq_true rfl) (c_X1_atOnce hc8) ?_
    obtain rfl := Option.some.inj h
    dsimp only
    exact ev_iret dX10_watch_83 rfl rfl
  exact ev_sub (L2 := [(2, (0 : Int)), (9, 0)]) (e_X10_watch_9 σ h) ⟨.inr rfl, .inl rfl, trivial⟩
set_option maxHeartbeats 4000000 in
set_option maxRecDepth 20000 in
theorem e_X10_duty_39 (σ : Mem)  {q : (Int × Mem)} (h : f_X10_duty_39 σ  = some q) : Ev M_X10_duty 218 218 (some (0, q.1), rho, q.2) 39 218 rho σ [(2, (0 : Int)), (9, 0), (9, 0)] [] := by
  unfold f_X10_duty_39 at h
  refine ev_aload_n dX10_duty_39 rfl (by decide) ?_
  refine ev_bipush dX10_duty_40 (by decide) (by decide) ?_
  obtain ⟨v7, hc8, h⟩ := bind_of h
  refine ev_invV_v (k := (0 : Int)) (av := [(0, (-52 : Int))]) (st := []) (v := (0, v7.1)) (τ := v7.2) dX10_duty_42 ml_X10_88 mv_X10_refuse (T := TX10) (ci := 9) rfl sp0 (by decide) (by decide) rfl ⟨Nat.le_of_ble_eq_true rfl, Nat.le_of_ble_eq_true rfl⟩ (Nat.le_of_ble_eq_true rfl) (c_X10_refuse hc8) ?_
  obtain rfl := Option.some.inj h
  dsimp only
  exact ev_iret dX10_duty_45 rfl rfl
set_option maxHeartbeats 4000000 in
set_option maxRecDepth 20000 in
theorem c_X10_duty {σ : Mem} {x1 x2 : Int}  {q : (Int × Mem)} (h : f_X10_duty σ x1 x2 = some q) : Ms yX10_duty M_X10_duty 218 218 [(2, (0 : Int)), (0, x1), (0, x2)] rho σ (some (0, q.1), rho, q.2) := by
  refine Ms.of 0 (by decide +kernel) rfl (fun z => absurd z (by decide)) (fun _ _ _ => trivial) rfl rfl ?_
  unfold f_X10_duty at h
  show Ev M_X10_duty 218 218 _ 0 218 rho σ [(2, (0 : Int)), (0, x1), (0, x2)] []
  refine ev_aload_n dX10_duty_0 rfl (by decide) ?_
  refine ev_getf (j := 10) (t := 2) (x := (164 : Int)) dX10_duty_1 cf_X10 wf_X10_64 sp0 (by decide) (by decide) rfl (by decide) (rp0_10 _) ?_
  refine ev_aload_n dX10_duty_4 rfl (by decide) ?_
  refine ev_getf (j := 0) (t := 2) (x := (1 : Int)) dX10_duty_5 cf_X10 wf_X10_12 sp0 (by decide) (by decide) rfl (by decide) (rp0_0 _) ?_
  refine ev_aload_n dX10_duty_8 rfl (by decide) ?_
  refine ev_getf (j := 8) (t := 2) (x := (43 : Int)) dX10_duty_9 cf_X10 wf_X10_50 sp0 (by decide) (by decide) rfl (by decide) (rp0_8 _) ?_
  obtain ⟨σ1, hc2, h⟩ := bind_of h
  refine ev_invV_n (k := (164 : Int)) (av := [(2, (1 : Int)), (2, (43 : Int))]) (st := []) (τ := σ1) dX10_duty_12 ml_X10_335 mv_X1_gather (T := TX1) (ci := 1) rfl sp164 (by decide) (by decide) rfl ⟨Nat.le_of_ble_eq_true rfl, Nat.le_of_ble_eq_true rfl⟩ (Nat.le_of_ble_eq_true rfl) (c_X1_gather hc2) ?_
  refine ev_iload_n dX10_duty_15 rfl ?_
  refine ev_if_lt (tgt := 39) dX10_duty_16 rfl h (fun cb h => ?_) (fun cb h => ?_)
  · exact ev_sub (L2 := [(2, (0 : Int)), (9, 0), (9, 0)]) (e_X10_duty_39 σ1 h) ⟨.inr rfl, .inl rfl, .inl rfl, trivial⟩
  refine ev_iload_n dX10_duty_19 rfl ?_
  refine ev_aload_n dX10_duty_20 rfl (by decide) ?_
  refine ev_getf (j := 10) (t := 2) (x := (164 : Int)) dX10_duty_21 cf_X10 wf_X10_64 sp0 (by decide) (by decide) rfl (by decide) (rp0_10 _) ?_
  obtain ⟨v3, hc4, h⟩ := bind_of h
  refine ev_invV_v (k := (164 : Int)) (av := []) (st := [(0, x1)]) (v := (0, v3)) (τ := σ1) dX10_duty_24 ml_X10_339 mv_X1_count (T := TX1) (ci := 1) rfl sp164 (by decide) (by decide) rfl ⟨Nat.le_of_ble_eq_true rfl, Nat.le_of_ble_eq_true rfl⟩ (Nat.le_of_ble_eq_true rfl) (c_X1_count hc4) ?_
  refine ev_icmp_ge (tgt := 39) dX10_duty_27 rfl h (fun cb h => ?_) (fun cb h => ?_)
  · exact ev_sub (L2 := [(2, (0 : Int)), (9, 0), (9, 0)]) (e_X10_duty_39 σ1 h) ⟨.inr rfl, .inl rfl, .inl rfl, trivial⟩
  refine ev_iload_n dX10_duty_30 rfl ?_
  refine ev_if_lt (tgt := 39) dX10_duty_31 rfl h (fun cb h => ?_) (fun cb h => ?_)
  · exact ev_sub (L2 := [(2, (0 : Int)), (9, 0), (9, 0)]) (e_X10_duty_39 σ1 h) ⟨.inr rfl, .inl rfl, .inl rfl, trivial⟩
  refine ev_iload_n dX10_duty_34 rfl ?_
  refine ev_iconst dX10_duty_35 (by decide) ?_
  refine ev_icmp_le (tgt := 46) dX10_duty_36 rfl h (fun cb h => ?_) (fun cb h => ?_)
  · refine ev_aload_n dX10_duty_46 rfl (by decide) ?_
    refine ev_getf (j := 10) (t := 2) (x := (164 : Int)) dX10_duty_47 cf_X10 wf_X10_64 sp0 (by decide) (by decide) rfl (by decide) (rp0_10 _) ?_
    refine ev_iload_n dX10_duty_50 rfl ?_
    refine ev_iload_n dX10_duty_51 rfl ?_
    obtain ⟨v5, hc6, h⟩ := bind_of h
    refine ev_invV_v (k := (164 : Int)) (av := [(0, x1), (0, x2)]) (st := []) (v := (0, v5)) (τ := σ1) dX10_duty_52 ml_X10_346 mv_X1_tell (T := TX1) (ci := 1) rfl sp164 (by decide) (by decide) rfl ⟨Nat.le_of_ble_eq_true rfl, Nat.le_of_ble_eq_true rfl⟩ (Nat.le_of_ble_eq_true rfl) (c_X1_tell hc6) ?_
    obtain rfl := Option.some.inj h
    dsimp only
    exact ev_iret dX10_duty_55 rfl rfl
  exact ev_sub (L2 := [(2, (0 : Int)), (9, 0), (9, 0)]) (e_X10_duty_39 σ1 h) ⟨.inr rfl, .inl rfl, .inl rfl, trivial⟩
set_option maxHeartbeats 4000000 in
set_option maxRecDepth 20000 in
theorem e_X10_pieces_27 (σ : Mem)  {q : (Int × Mem)} (h : f_X10_pieces_27 σ  = some q) : Ev M_X10_pieces 218 218 (some (0, q.1), rho, q.2) 27 218 rho σ [(2, (0 : Int)), (9, 0), (9, 0), (9, 0)] [] := by
  unfold f_X10_pieces_27 at h
  refine ev_aload_n dX10_pieces_27 rfl (by decide) ?_
  refine ev_bipush dX10_pieces_28 (by decide) (by decide) ?_
  obtain ⟨v11, hc12, h⟩ := bind_of h
  refine ev_invV_v (k := (0 : Int)) (av := [(0, (-52 : Int))]) (st := []) (v := (0, v11.1)) (τ := v11.2) dX10_pieces_30 ml_X10_88 mv_X10_refuse (T := TX10) (ci := 9) rfl sp0 (by decide) (by decide) rfl ⟨Nat.le_of_ble_eq_true rfl, Nat.le_of_ble_eq_true rfl⟩ (Nat.le_of_ble_eq_true rfl) (c_X10_refuse hc12) ?_
  obtain rfl := Option.some.inj h
  dsimp only
  exact ev_iret dX10_pieces_33 rfl rfl
set_option maxHeartbeats 4000000 in
set_option maxRecDepth 20000 in
theorem c_X10_pieces {σ : Mem} {x1 x2 x3 : Int}  {q : (Int × Mem)} (h : f_X10_pieces σ x1 x2 x3 = some q) : Ms yX10_pieces M_X10_pieces 218 218 [(2, (0 : Int)), (0, x1), (0, x2), (0, x3)] rho σ (some (0, q.1), rho, q.2) := by
  refine Ms.of 0 (by decide +kernel) rfl (fun z => absurd z (by decide)) (fun _ _ _ => trivial) rfl rfl ?_
  unfold f_X10_pieces at h
  show Ev M_X10_pieces 218 218 _ 0 218 rho σ [(2, (0 : Int)), (0, x1), (0, x2), (0, x3)] []
  refine ev_aload_n dX10_pieces_0 rfl (by decide) ?_
  refine ev_getf (j := 0) (t := 2) (x := (1 : Int)) dX10_pieces_1 cf_X10 wf_X10_12 sp0 (by decide) (by decide) rfl (by decide) (rp0_0 _) ?_
  refine ev_iload_n dX10_pieces_4 rfl ?_
  obtain ⟨v1, hc2, h⟩ := bind_of h
  refine ev_invV_v (k := (1 : Int)) (av := [(0, x1)]) (st := []) (v := (0, v1)) (τ := σ) dX10_pieces_5 ml_X10_122 mv_X0_hasCand (T := TX0) (ci := 0) rfl sp1 (by decide) (by decide) rfl ⟨Nat.le_of_ble_eq_true rfl, Nat.le_of_ble_eq_true rfl⟩ (Nat.le_of_ble_eq_true rfl) (c_X0_hasCand hB1 hc2) ?_
  refine ev_if_eq (tgt := 27) dX10_pieces_8 rfl h (fun cb h => ?_) (fun cb h => ?_)
  · exact ev_sub (L2 := [(2, (0 : Int)), (9, 0), (9, 0), (9, 0)]) (e_X10_pieces_27 σ h) ⟨.inr rfl, .inl rfl, .inl rfl, .inl rfl, trivial⟩
  refine ev_iload_n dX10_pieces_11 rfl ?_
  obtain ⟨v3, hc4, h⟩ := bind_of h
  refine ev_invS_v (av := [(0, x2)]) (st := []) (v := (0, v3)) (τ := σ) dX10_pieces_12 ml_X10_150 mt_X10_isDay rfl ⟨Nat.le_of_ble_eq_true rfl, Nat.le_of_ble_eq_true rfl⟩ (Nat.le_of_ble_eq_true rfl) (c_X10_isDay hc4) ?_
  refine ev_if_eq (tgt := 27) dX10_pieces_15 rfl h (fun cb h => ?_) (fun cb h => ?_)
  · exact ev_sub (L2 := [(2, (0 : Int)), (9, 0), (9, 0), (9, 0)]) (e_X10_pieces_27 σ h) ⟨.inr rfl, .inl rfl, .inl rfl, .inl rfl, trivial⟩
  refine ev_iload_n dX10_pieces_18 rfl ?_
  refine ev_if_lt (tgt := 27) dX10_pieces_19 rfl h (fun cb h => ?_) (fun cb h => ?_)
  · exact ev_sub (L2 := [(2, (0 : Int)), (9, 0), (9, 0), (9, 0)]) (e_X10_pieces_27 σ h) ⟨.inr rfl, .inl rfl, .inl rfl, .inl rfl, trivial⟩
  refine ev_iload_n dX10_pieces_22 rfl ?_
  refine ev_iconst dX10_pieces_23 (by decide) ?_
  refine ev_icmp_le (tgt := 34) dX10_pieces_24 rfl h (fun cb h => ?_) (fun cb h => ?_)
  · refine ev_aload_n dX10_pieces_34 rfl (by decide) ?_
    refine ev_getf (j := 11) (t := 2) (x := (171 : Int)) dX10_pieces_35 cf_X10 wf_X10_71 sp0 (by decide) (by decide) rfl (by decide) (rp0_11 _) ?_
    refine ev_aload_n dX10_pieces_38 rfl (by decide) ?_
    refine ev_getf (j := 0) (t := 2) (x := (1 : Int)) dX10_pieces_39 cf_X10 wf_X10_12 sp0 (by decide) (by decide) rfl (by decide) (rp0_0 _) ?_
    refine ev_aload_n dX10_pieces_42 rfl (by decide) ?_
    refine ev_getf (j := 8) (t := 2) (x := (43 : Int)) dX10_pieces_43 cf_X10 wf_X10_50 sp0 (by decide) (by decide) rfl (by decide) (rp0_8 _) ?_
    refine ev_iload_n dX10_pieces_46 rfl ?_
    obtain ⟨σ5, hc6, h⟩ := bind_of h
    refine ev_invV_n (k := (171 : Int)) (av := [(2, (1 : Int)), (2, (43 : Int)), (0, x2)]) (st := []) (τ := σ5) dX10_pieces_47 ml_X10_349 mv_X5_lay (T := TX5) (ci := 4) rfl sp171 (by decide) (by decide) rfl ⟨Nat.le_of_ble_eq_true rfl, Nat.le_of_ble_eq_true rfl⟩ (Nat.le_of_ble_eq_true rfl) (c_X5_lay hc6) ?_
    refine ev_iload_n dX10_pieces_50 rfl ?_
    refine ev_if_ne (tgt := 65) dX10_pieces_51 rfl h (fun cb h => ?_) (fun cb h => ?_)
    · refine ev_aload_n dX10_pieces_65 rfl (by decide) ?_
      refine ev_getf (j := 11) (t := 2) (x := (171 : Int)) dX10_pieces_66 cf_X10 wf_X10_71 sp0 (by decide) (by decide) rfl (by decide) (rp0_11 _) ?_
      refine ev_iload_n dX10_pieces_69 rfl ?_
      obtain ⟨v7, hc8, h⟩ := bind_of h
      refine ev_invV_v (k := (171 : Int)) (av := [(0, x1)]) (st := []) (v := (0, v7)) (τ := σ5) dX10_pieces_70 ml_X10_356 mv_X5_movesOf (T := TX5) (ci := 4) rfl sp171 (by decide) (by decide) rfl ⟨Nat.le_of_ble_eq_true rfl, Nat.le_of_ble_eq_true rfl⟩ (Nat.le_of_ble_eq_true rfl) (c_X5_movesOf hc8) ?_
      obtain rfl := Option.some.inj h
      dsimp only
      exact ev_iret dX10_pieces_73 rfl rfl
    refine ev_aload_n dX10_pieces_54 rfl (by decide) ?_
    refine ev_getf (j := 11) (t := 2) (x := (171 : Int)) dX10_pieces_55 cf_X10 wf_X10_71 sp0 (by decide) (by decide) rfl (by decide) (rp0_11 _) ?_
    refine ev_iload_n dX10_pieces_58 rfl ?_
    obtain ⟨v9, hc10, h⟩ := bind_of h
    refine ev_invV_v (k := (171 : Int)) (av := [(0, x1)]) (st := []) (v := (0, v9)) (τ := σ5) dX10_pieces_59 ml_X10_353 mv_X5_piecesOf (T := TX5) (ci := 4) rfl sp171 (by decide) (by decide) rfl ⟨Nat.le_of_ble_eq_true rfl, Nat.le_of_ble_eq_true rfl⟩ (Nat.le_of_ble_eq_true rfl) (c_X5_piecesOf hc10) ?_
    refine ev_goto (tgt := 73) dX10_pieces_62 rfl ?_
    obtain rfl := Option.some.inj h
    dsimp only
    exact ev_iret dX10_pieces_73 rfl rfl
  exact ev_sub (L2 := [(2, (0 : Int)), (9, 0), (9, 0), (9, 0)]) (e_X10_pieces_27 σ h) ⟨.inr rfl, .inl rfl, .inl rfl, .inl rfl, trivial⟩
set_option maxHeartbeats 4000000 in
set_option maxRecDepth 20000 in
theorem e_X10_roomOf_18 (σ : Mem)  {q : (Int × Mem)} (h : f_X10_roomOf_18 σ  = some q) : Ev M_X10_roomOf 218 218 (some (0, q.1), rho, q.2) 18 218 rho σ [(2, (0 : Int)), (9, 0), (9, 0), (9, 0)] [] := by
  unfold f_X10_roomOf_18 at h
  refine ev_aload_n dX10_roomOf_18 rfl (by decide) ?_
  refine ev_bipush dX10_roomOf_19 (by decide) (by decide) ?_
  obtain ⟨v11, hc12, h⟩ := bind_of h
  refine ev_invV_v (k := (0 : Int)) (av := [(0, (-52 : Int))]) (st := []) (v := (0, v11.1)) (τ := v11.2) dX10_roomOf_21 ml_X10_88 mv_X10_refuse (T := TX10) (ci := 9) rfl sp0 (by decide) (by decide) rfl ⟨Nat.le_of_ble_eq_true rfl, Nat.le_of_ble_eq_true rfl⟩ (Nat.le_of_ble_eq_true rfl) (c_X10_refuse hc12) ?_
  obtain rfl := Option.some.inj h
  dsimp only
  exact ev_iret dX10_roomOf_24 rfl rfl
set_option maxHeartbeats 4000000 in
set_option maxRecDepth 20000 in
theorem e_X10_roomOf_57 (σ : Mem)  {q : (Int × Mem)} (h : f_X10_roomOf_57 σ  = some q) : Ev M_X10_roomOf 218 218 (some (0, q.1), rho, q.2) 57 218 rho σ [(2, (0 : Int)), (9, 0), (9, 0), (9, 0)] [] := by
  unfold f_X10_roomOf_57 at h
  refine ev_aload_n dX10_roomOf_57 rfl (by decide) ?_
  refine ev_bipush dX10_roomOf_58 (by decide) (by decide) ?_
  obtain ⟨v13, hc14, h⟩ := bind_of h
  refine ev_invV_v (k := (0 : Int)) (av := [(0, (-52 : Int))]) (st := []) (v := (0, v13.1)) (τ := v13.2) dX10_roomOf_60 ml_X10_88 mv_X10_refuse (T := TX10) (ci := 9) rfl sp0 (by decide) (by decide) rfl ⟨Nat.le_of_ble_eq_true rfl, Nat.le_of_ble_eq_true rfl⟩ (Nat.le_of_ble_eq_true rfl) (c_X10_refuse hc14) ?_
  obtain rfl := Option.some.inj h
  dsimp only
  exact ev_iret dX10_roomOf_63 rfl rfl
set_option maxHeartbeats 4000000 in
set_option maxRecDepth 20000 in
theorem c_X10_roomOf {σ : Mem} {x1 x2 x3 : Int}  {q : (Int × Mem)} (h : f_X10_roomOf σ x1 x2 x3 = some q) : Ms yX10_roomOf M_X10_roomOf 218 218 [(2, (0 : Int)), (0, x1), (0, x2), (0, x3)] rho σ (some (0, q.1), rho, q.2) := by
  refine Ms.of 0 (by decide +kernel) rfl (fun z => absurd z (by decide)) (fun _ _ _ => trivial) rfl rfl ?_
  unfold f_X10_roomOf at h
  show Ev M_X10_roomOf 218 218 _ 0 218 rho σ [(2, (0 : Int)), (0, x1), (0, x2), (0, x3)] []
  refine ev_aload_n dX10_roomOf_0 rfl (by decide) ?_
  refine ev_getf (j := 0) (t := 2) (x := (1 : Int)) dX10_roomOf_1 cf_X10 wf_X10_12 sp0 (by decide) (by decide) rfl (by decide) (rp0_0 _) ?_
  refine ev_iload_n dX10_roomOf_4 rfl ?_
  obtain ⟨v1, hc2, h⟩ := bind_of h
  refine ev_invV_v (k := (1 : Int)) (av := [(0, x1)]) (st := []) (v := (0, v1)) (τ := σ) dX10_roomOf_5 ml_X10_122 mv_X0_hasCand (T := TX0) (ci := 0) rfl sp1 (by decide) (by decide) rfl ⟨Nat.le_of_ble_eq_true rfl, Nat.le_of_ble_eq_true rfl⟩ (Nat.le_of_ble_eq_true rfl) (c_X0_hasCand hB1 hc2) ?_
  refine ev_if_eq (tgt := 18) dX10_roomOf_8 rfl h (fun cb h => ?_) (fun cb h => ?_)
  · exact ev_sub (L2 := [(2, (0 : Int)), (9, 0), (9, 0), (9, 0)]) (e_X10_roomOf_18 σ h) ⟨.inr rfl, .inl rfl, .inl rfl, .inl rfl, trivial⟩
  refine ev_iload_n dX10_roomOf_11 rfl ?_
  obtain ⟨v3, hc4, h⟩ := bind_of h
  refine ev_invS_v (av := [(0, x2)]) (st := []) (v := (0, v3)) (τ := σ) dX10_roomOf_12 ml_X10_150 mt_X10_isDay rfl ⟨Nat.le_of_ble_eq_true rfl, Nat.le_of_ble_eq_true rfl⟩ (Nat.le_of_ble_eq_true rfl) (c_X10_isDay hc4) ?_
  refine ev_if_ne (tgt := 25) dX10_roomOf_15 rfl h (fun cb h => ?_) (fun cb h => ?_)
  · refine ev_aload_n dX10_roomOf_25 rfl (by decide) ?_
    refine ev_getf (j := 11) (t := 2) (x := (171 : Int)) dX10_roomOf_26 cf_X10 wf_X10_71 sp0 (by decide) (by decide) rfl (by decide) (rp0_11 _) ?_
    refine ev_aload_n dX10_roomOf_29 rfl (by decide) ?_
    refine ev_getf (j := 0) (t := 2) (x := (1 : Int)) dX10_roomOf_30 cf_X10 wf_X10_12 sp0 (by decide) (by decide) rfl (by decide) (rp0_0 _) ?_
    refine ev_aload_n dX10_roomOf_33 rfl (by decide) ?_
    refine ev_getf (j := 8) (t := 2) (x := (43 : Int)) dX10_roomOf_34 cf_X10 wf_X10_50 sp0 (by decide) (by decide) rfl (by decide) (rp0_8 _) ?_
    refine ev_iload_n dX10_roomOf_37 rfl ?_
    obtain ⟨σ5, hc6, h⟩ := bind_of h
    refine ev_invV_n (k := (171 : Int)) (av := [(2, (1 : Int)), (2, (43 : Int)), (0, x2)]) (st := []) (τ := σ5) dX10_roomOf_38 ml_X10_349 mv_X5_lay (T := TX5) (ci := 4) rfl sp171 (by decide) (by decide) rfl ⟨Nat.le_of_ble_eq_true rfl, Nat.le_of_ble_eq_true rfl⟩ (Nat.le_of_ble_eq_true rfl) (c_X5_lay hc6) ?_
    refine ev_iload_n dX10_roomOf_41 rfl ?_
    refine ev_if_lt (tgt := 57) dX10_roomOf_42 rfl h (fun cb h => ?_) (fun cb h => ?_)
    · exact ev_sub (L2 := [(2, (0 : Int)), (9, 0), (9, 0), (9, 0)]) (e_X10_roomOf_57 σ5 h) ⟨.inr rfl, .inl rfl, .inl rfl, .inl rfl, trivial⟩
    refine ev_iload_n dX10_roomOf_45 rfl ?_
    refine ev_aload_n dX10_roomOf_46 rfl (by decide) ?_
    refine ev_getf (j := 11) (t := 2) (x := (171 : Int)) dX10_roomOf_47 cf_X10 wf_X10_71 sp0 (by decide) (by decide) rfl (by decide) (rp0_11 _) ?_
    refine ev_iload_n dX10_roomOf_50 rfl ?_
    obtain ⟨v7, hc8, h⟩ := bind_of h
    refine ev_invV_v (k := (171 : Int)) (av := [(0, x1)]) (st := [(0, x3)]) (v := (0, v7)) (τ := σ5) dX10_roomOf_51 ml_X10_353 mv_X5_piecesOf (T := TX5) (ci := 4) rfl sp171 (by decide) (by decide) rfl ⟨Nat.le_of_ble_eq_true rfl, Nat.le_of_ble_eq_true rfl⟩ (Nat.le_of_ble_eq_true rfl) (c_X5_piecesOf hc8) ?_
    refine ev_icmp_lt (tgt := 64) dX10_roomOf_54 rfl h (fun cb h => ?_) (fun cb h => ?_)
    · refine ev_aload_n dX10_roomOf_64 rfl (by decide) ?_
      refine ev_getf (j := 11) (t := 2) (x := (171 : Int)) dX10_roomOf_65 cf_X10 wf_X10_71 sp0 (by decide) (by decide) rfl (by decide) (rp0_11 _) ?_
      refine ev_iload_n dX10_roomOf_68 rfl ?_
      refine ev_iload_n dX10_roomOf_69 rfl ?_
      obtain ⟨v9, hc10, h⟩ := bind_of h
      refine ev_invV_v (k := (171 : Int)) (av := [(0, x1), (0, x3)]) (st := []) (v := (0, v9)) (τ := σ5) dX10_roomOf_70 ml_X10_359 mv_X5_roomAt (T := TX5) (ci := 4) rfl sp171 (by decide) (by decide) rfl ⟨Nat.le_of_ble_eq_true rfl, Nat.le_of_ble_eq_true rfl⟩ (Nat.le_of_ble_eq_true rfl) (c_X5_roomAt hc10) ?_
      obtain rfl := Option.some.inj h
      dsimp only
      exact ev_iret dX10_roomOf_73 rfl rfl
    exact ev_sub (L2 := [(2, (0 : Int)), (9, 0), (9, 0), (9, 0)]) (e_X10_roomOf_57 σ5 h) ⟨.inr rfl, .inl rfl, .inl rfl, .inl rfl, trivial⟩
  exact ev_sub (L2 := [(2, (0 : Int)), (9, 0), (9, 0), (9, 0)]) (e_X10_roomOf_18 σ h) ⟨.inr rfl, .inl rfl, .inl rfl, .inl rfl, trivial⟩
set_option maxHeartbeats 4000000 in
set_option maxRecDepth 20000 in
theorem e_X10_left_25 (σ : Mem)  {q : (Int × Mem)} (h : f_X10_left_25 σ  = some q) : Ev M_X10_left 218 218 (some (0, q.1), rho, q.2) 25 218 rho σ [(2, (0 : Int)), (9, 0), (9, 0), (9, 0)] [] := by
  unfold f_X10_left_25 at h
  refine ev_aload_n dX10_left_25 rfl (by decide) ?_
  refine ev_bipush dX10_left_26 (by decide) (by decide) ?_
  obtain ⟨v11, hc12, h⟩ := bind_of h
  refine ev_invV_v (k := (0 : Int)) (av := [(0, (-52 : Int))]) (st := []) (v := (0, v11.1)) (τ := v11.2) dX10_left_28 ml_X10_88 mv_X10_refuse (T := TX10) (ci := 9) rfl sp0 (by decide) (by decide) rfl ⟨Nat.le_of_ble_eq_true rfl, Nat.le_of_ble_eq_true rfl⟩ (Nat.le_of_ble_eq_true rfl) (c_X10_refuse hc12) ?_
  obtain rfl := Option.some.inj h
  dsimp only
  exact ev_iret dX10_left_31 rfl rfl
set_option maxHeartbeats 4000000 in
set_option maxRecDepth 20000 in
theorem c_X10_left {σ : Mem} {x1 x2 x3 : Int}  {q : (Int × Mem)} (h : f_X10_left σ x1 x2 x3 = some q) : Ms yX10_left M_X10_left 218 218 [(2, (0 : Int)), (0, x1), (0, x2), (0, x3)] rho σ (some (0, q.1), rho, q.2) := by
  refine Ms.of 0 (by decide +kernel) rfl (fun z => absurd z (by decide)) (fun _ _ _ => trivial) rfl rfl ?_
  unfold f_X10_left at h
  show Ev M_X10_left 218 218 _ 0 218 rho σ [(2, (0 : Int)), (0, x1), (0, x2), (0, x3)] []
  refine ev_aload_n dX10_left_0 rfl (by decide) ?_
  refine ev_getf (j := 0) (t := 2) (x := (1 : Int)) dX10_left_1 cf_X10 wf_X10_12 sp0 (by decide) (by decide) rfl (by decide) (rp0_0 _) ?_
  refine ev_iload_n dX10_left_4 rfl ?_
  obtain ⟨v1, hc2, h⟩ := bind_of h
  refine ev_invV_v (k := (1 : Int)) (av := [(0, x1)]) (st := []) (v := (0, v1)) (τ := σ) dX10_left_5 ml_X10_362 mv_X0_hasRoom (T := TX0) (ci := 0) rfl sp1 (by decide) (by decide) rfl ⟨Nat.le_of_ble_eq_true rfl, Nat.le_of_ble_eq_true rfl⟩ (Nat.le_of_ble_eq_true rfl) (c_X0_hasRoom hB1 hc2) ?_
  refine ev_if_eq (tgt := 25) dX10_left_8 rfl h (fun cb h => ?_) (fun cb h => ?_)
  · exact ev_sub (L2 := [(2, (0 : Int)), (9, 0), (9, 0), (9, 0)]) (e_X10_left_25 σ h) ⟨.inr rfl, .inl rfl, .inl rfl, .inl rfl, trivial⟩
  refine ev_iload_n dX10_left_11 rfl ?_
  obtain ⟨v3, hc4, h⟩ := bind_of h
  refine ev_invS_v (av := [(0, x2)]) (st := []) (v := (0, v3)) (τ := σ) dX10_left_12 ml_X10_150 mt_X10_isDay rfl ⟨Nat.le_of_ble_eq_true rfl, Nat.le_of_ble_eq_true rfl⟩ (Nat.le_of_ble_eq_true rfl) (c_X10_isDay hc4) ?_
  refine ev_if_eq (tgt := 25) dX10_left_15 rfl h (fun cb h => ?_) (fun cb h => ?_)
  · exact ev_sub (L2 := [(2, (0 : Int)), (9, 0), (9, 0), (9, 0)]) (e_X10_left_25 σ h) ⟨.inr rfl, .inl rfl, .inl rfl, .inl rfl, trivial⟩
  refine ev_iload_n dX10_left_18 rfl ?_
  obtain ⟨v5, hc6, h⟩ := bind_of h
  refine ev_invS_v (av := [(0, x3)]) (st := []) (v := (0, v5)) (τ := σ) dX10_left_19 ml_X10_153 mt_X10_isSlot rfl ⟨Nat.le_of_ble_eq_true rfl, Nat.le_of_ble_eq_true rfl⟩ (Nat.le_of_ble_eq_true rfl) (c_X10_isSlot hc6) ?_
  refine ev_if_ne (tgt := 32) dX10_left_22 rfl h (fun cb h => ?_) (fun cb h => ?_)
  · refine ev_aload_n dX10_left_32 rfl (by decide) ?_
    refine ev_getf (j := 11) (t := 2) (x := (171 : Int)) dX10_left_33 cf_X10 wf_X10_71 sp0 (by decide) (by decide) rfl (by decide) (rp0_11 _) ?_
    refine ev_aload_n dX10_left_36 rfl (by decide) ?_
    refine ev_getf (j := 0) (t := 2) (x := (1 : Int)) dX10_left_37 cf_X10 wf_X10_12 sp0 (by decide) (by decide) rfl (by decide) (rp0_0 _) ?_
    refine ev_aload_n dX10_left_40 rfl (by decide) ?_
    refine ev_getf (j := 8) (t := 2) (x := (43 : Int)) dX10_left_41 cf_X10 wf_X10_50 sp0 (by decide) (by decide) rfl (by decide) (rp0_8 _) ?_
    refine ev_iload_n dX10_left_44 rfl ?_
    obtain ⟨σ7, hc8, h⟩ := bind_of h
    refine ev_invV_n (k := (171 : Int)) (av := [(2, (1 : Int)), (2, (43 : Int)), (0, x2)]) (st := []) (τ := σ7) dX10_left_45 ml_X10_349 mv_X5_lay (T := TX5) (ci := 4) rfl sp171 (by decide) (by decide) rfl ⟨Nat.le_of_ble_eq_true rfl, Nat.le_of_ble_eq_true rfl⟩ (Nat.le_of_ble_eq_true rfl) (c_X5_lay hc8) ?_
    refine ev_aload_n dX10_left_48 rfl (by decide) ?_
    refine ev_getf (j := 0) (t := 2) (x := (1 : Int)) dX10_left_49 cf_X10 wf_X10_12 sp0 (by decide) (by decide) rfl (by decide) (rp0_0 _) ?_
    refine ev_getf (j := 7) (t := 2) (x := (9 : Int)) dX10_left_52 cf_X0 wf_X10_365 sp1 (by decide) (by decide) rfl (by decide) (rp1_7 _) ?_
    show Ev _ _ _ _ 55 _ _ _ _ _
    refine ev_iload_n dX10_left_55 rfl ?_
    refine ev_iald dX10_left_56 sp9 (by decide) (by decide) h (fun h => ?_)
    refine ev_aload_n dX10_left_57 rfl (by decide) ?_
    refine ev_getf (j := 11) (t := 2) (x := (171 : Int)) dX10_left_58 cf_X10 wf_X10_71 sp0 (by decide) (by decide) rfl (by decide) (rp0_11 _) ?_
    refine ev_iload_n dX10_left_61 rfl ?_
    refine ev_iload_n dX10_left_62 rfl ?_
    obtain ⟨v9, hc10, h⟩ := bind_of h
    refine ev_invV_v (k := (171 : Int)) (av := [(0, x1), (0, x3)]) (st := [(0, (σ7 (9 : Int) x1))]) (v := (0, v9)) (τ := σ7) dX10_left_63 ml_X10_368 mv_X5_usedAt (T := TX5) (ci := 4) rfl sp171 (by decide) (by decide) rfl ⟨Nat.le_of_ble_eq_true rfl, Nat.le_of_ble_eq_true rfl⟩ (Nat.le_of_ble_eq_true rfl) (c_X5_usedAt hc10) ?_
    refine ev_isub dX10_left_66 ?_
    obtain rfl := Option.some.inj h
    dsimp only
    exact ev_iret dX10_left_67 rfl rfl
  exact ev_sub (L2 := [(2, (0 : Int)), (9, 0), (9, 0), (9, 0)]) (e_X10_left_25 σ h) ⟨.inr rfl, .inl rfl, .inl rfl, .inl rfl, trivial⟩
set_option maxHeartbeats 4000000 in
set_option maxRecDepth 20000 in
theorem c_X10_cantsFlipped {σ : Mem} {x1 x2 : Int}  {q : (Int × Mem)} (h : f_X10_cantsFlipped σ x1 x2 = some q) : Ms yX10_cantsFlipped M_X10_cantsFlipped 218 218 [(2, (0 : Int)), (0, x1), (0, x2)] rho σ (some (0, q.1), rho, q.2) := by
  refine Ms.of 0 (by decide +kernel) rfl (fun z => absurd z (by decide)) (fun _ _ _ => trivial) rfl rfl ?_
  unfold f_X10_cantsFlipped at h
  show Ev M_X10_cantsFlipped 218 218 _ 0 218 rho σ [(2, (0 : Int)), (0, x1), (0, x2)] []
  refine ev_aload_n dX10_cantsFlipped_0 rfl (by decide) ?_
  refine ev_getf (j := 1) (t := 2) (x := (10 : Int)) dX10_cantsFlipped_1 cf_X10 wf_X10_16 sp0 (by decide) (by decide) rfl (by decide) (rp0_1 _) ?_
  refine ev_iload_n dX10_cantsFlipped_4 rfl ?_
  refine ev_iload_n dX10_cantsFlipped_5 rfl ?_
  obtain ⟨σ1, hc2, h⟩ := bind_of h
  refine ev_invV_n (k := (10 : Int)) (av := [(0, x1), (0, x2)]) (st := []) (τ := σ1) dX10_cantsFlipped_6 ml_X10_194 mv_X0_flip (T := TX0) (ci := 0) rfl sp10 (by decide) (by decide) rfl ⟨Nat.le_of_ble_eq_true rfl, Nat.le_of_ble_eq_true rfl⟩ (Nat.le_of_ble_eq_true rfl) (c_X0_flip hB10 hc2) ?_
  refine ev_aload_n dX10_cantsFlipped_9 rfl (by decide) ?_
  refine ev_getf (j := 9) (t := 2) (x := (154 : Int)) dX10_cantsFlipped_10 cf_X10 wf_X10_57 sp0 (by decide) (by decide) rfl (by decide) (rp0_9 _) ?_
  refine ev_aload_n dX10_cantsFlipped_13 rfl (by decide) ?_
  refine ev_getf (j := 8) (t := 2) (x := (43 : Int)) dX10_cantsFlipped_14 cf_X10 wf_X10_50 sp0 (by decide) (by decide) rfl (by decide) (rp0_8 _) ?_
  refine ev_aload_n dX10_cantsFlipped_17 rfl (by decide) ?_
  refine ev_getf (j := 0) (t := 2) (x := (1 : Int)) dX10_cantsFlipped_18 cf_X10 wf_X10_12 sp0 (by decide) (by decide) rfl (by decide) (rp0_0 _) ?_
  show Ev _ _ _ _ 21 _ _ _ _ _
  refine ev_iload_n dX10_cantsFlipped_21 rfl ?_
  obtain ⟨v3, hc4, h⟩ := bind_of h
  refine ev_invV_v (k := (43 : Int)) (av := [(2, (1 : Int)), (0, x1)]) (st := [(2, (154 : Int))]) (v := (2, v3.1)) (τ := v3.2) dX10_cantsFlipped_22 ml_X10_243 mv_X9_of (T := TX9) (ci := 8) rfl sp43 (by decide) (by decide) rfl ⟨Nat.le_of_ble_eq_true rfl, Nat.le_of_ble_eq_true rfl⟩ (Nat.le_of_ble_eq_true rfl) (c_X9_of hc4) ?_
  have hw5 := w_X9_of hc4
  obtain ⟨σ6, hc7, h⟩ := bind_of h
  refine ev_invV_n (k := (154 : Int)) (av := [(2, v3.1)]) (st := []) (τ := σ6) dX10_cantsFlipped_25 ml_X10_425 mv_X8_become (T := TX8) (ci := 7) rfl sp154 (by decide) (by decide) rfl ⟨Nat.le_of_ble_eq_true rfl, Nat.le_of_ble_eq_true rfl⟩ (Nat.le_of_ble_eq_true rfl) (c_X8_become hW154 hw5 hc7) ?_
  refine ev_aload_n dX10_cantsFlipped_28 rfl (by decide) ?_
  refine ev_getf (j := 7) (t := 2) (x := (35 : Int)) dX10_cantsFlipped_29 cf_X10 wf_X10_43 sp0 (by decide) (by decide) rfl (by decide) (rp0_7 _) ?_
  refine ev_aload_n dX10_cantsFlipped_32 rfl (by decide) ?_
  refine ev_getf (j := 1) (t := 2) (x := (10 : Int)) dX10_cantsFlipped_33 cf_X10 wf_X10_16 sp0 (by decide) (by decide) rfl (by decide) (rp0_1 _) ?_
  refine ev_iload_n dX10_cantsFlipped_36 rfl ?_
  refine ev_aload_n dX10_cantsFlipped_37 rfl (by decide) ?_
  refine ev_getf (j := 1) (t := 2) (x := (10 : Int)) dX10_cantsFlipped_38 cf_X10 wf_X10_16 sp0 (by decide) (by decide) rfl (by decide) (rp0_1 _) ?_
  refine ev_getf (j := 0) (t := 2) (x := (11 : Int)) dX10_cantsFlipped_41 cf_X0 wf_X10_250 sp10 (by decide) (by decide) rfl (by decide) (rp10_0 _) ?_
  refine ev_iload_n dX10_cantsFlipped_44 rfl ?_
  show Ev _ _ _ _ 45 _ _ _ _ _
  refine ev_iald dX10_cantsFlipped_45 sp11 (by decide) (by decide) h (fun h => ?_)
  refine ev_aload_n dX10_cantsFlipped_46 rfl (by decide) ?_
  refine ev_getf (j := 9) (t := 2) (x := (154 : Int)) dX10_cantsFlipped_47 cf_X10 wf_X10_57 sp0 (by decide) (by decide) rfl (by decide) (rp0_9 _) ?_
  obtain ⟨σ8, hc9, h⟩ := bind_of h
  refine ev_invV_n (k := (35 : Int)) (av := [(2, (10 : Int)), (0, x1), (0, (σ6 (11 : Int) x2)), (2, (154 : Int))]) (st := []) (τ := σ8) dX10_cantsFlipped_50 ml_X10_428 mv_X4_replan (T := TX4) (ci := 3) rfl sp35 (by decide) (by decide) rfl ⟨Nat.le_of_ble_eq_true rfl, Nat.le_of_ble_eq_true rfl⟩ (Nat.le_of_ble_eq_true rfl) (c_X4_replan hB10 hW154 hc9) ?_
  refine ev_aload_n dX10_cantsFlipped_53 rfl (by decide) ?_
  refine ev_getf (j := 1) (t := 2) (x := (10 : Int)) dX10_cantsFlipped_54 cf_X10 wf_X10_16 sp0 (by decide) (by decide) rfl (by decide) (rp0_1 _) ?_
  refine ev_iload_n dX10_cantsFlipped_57 rfl ?_
  refine ev_iload_n dX10_cantsFlipped_58 rfl ?_
  obtain ⟨σ10, hc11, h⟩ := bind_of h
  refine ev_invV_n (k := (10 : Int)) (av := [(0, x1), (0, x2)]) (st := []) (τ := σ10) dX10_cantsFlipped_59 ml_X10_194 mv_X0_flip (T := TX0) (ci := 0) rfl sp10 (by decide) (by decide) rfl ⟨Nat.le_of_ble_eq_true rfl, Nat.le_of_ble_eq_true rfl⟩ (Nat.le_of_ble_eq_true rfl) (c_X0_flip hB10 hc11) ?_
  refine ev_aload_n dX10_cantsFlipped_62 rfl (by decide) ?_
  refine ev_getf (j := 9) (t := 2) (x := (154 : Int)) dX10_cantsFlipped_63 cf_X10 wf_X10_57 sp0 (by decide) (by decide) rfl (by decide) (rp0_9 _) ?_
  obtain ⟨v12, hc13, h⟩ := bind_of h
  refine ev_invV_v (k := (154 : Int)) (av := []) (st := []) (v := (0, v12)) (τ := σ10) dX10_cantsFlipped_66 ml_X10_247 mv_X8_cants (T := TX8) (ci := 7) rfl sp154 (by decide) (by decide) rfl ⟨Nat.le_of_ble_eq_true rfl, Nat.le_of_ble_eq_true rfl⟩ (Nat.le_of_ble_eq_true rfl) (c_X8_cants hW154 hc13) ?_
  show Ev _ _ _ _ 69 _ _ _ _ _
  obtain rfl := Option.some.inj h
  dsimp only
  exact ev_iret dX10_cantsFlipped_69 rfl rfl
set_option maxHeartbeats 4000000 in
set_option maxRecDepth 20000 in
theorem e_X10_whatIf_23 (σ : Mem)  {q : (Int × Mem)} (h : f_X10_whatIf_23 σ  = some q) : Ev M_X10_whatIf 218 218 (some (0, q.1), rho, q.2) 23 218 rho σ [(2, (0 : Int)), (9, 0), (9, 0)] [] := by
  unfold f_X10_whatIf_23 at h
  refine ev_aload_n dX10_whatIf_23 rfl (by decide) ?_
  refine ev_bipush dX10_whatIf_24 (by decide) (by decide) ?_
  obtain ⟨v13, hc14, h⟩ := bind_of h
  refine ev_invV_v (k := (0 : Int)) (av := [(0, (-52 : Int))]) (st := []) (v := (0, v13.1)) (τ := v13.2) dX10_whatIf_26 ml_X10_88 mv_X10_refuse (T := TX10) (ci := 9) rfl sp0 (by decide) (by decide) rfl ⟨Nat.le_of_ble_eq_true rfl, Nat.le_of_ble_eq_true rfl⟩ (Nat.le_of_ble_eq_true rfl) (c_X10_refuse hc14) ?_
  obtain rfl := Option.some.inj h
  dsimp only
  exact ev_iret dX10_whatIf_29 rfl rfl
set_option maxHeartbeats 4000000 in
set_option maxRecDepth 20000 in
theorem c_X10_whatIf {σ : Mem} {x1 x2 : Int}  {q : (Int × Mem)} (h : f_X10_whatIf σ x1 x2 = some q) : Ms yX10_whatIf M_X10_whatIf 218 218 [(2, (0 : Int)), (0, x1), (0, x2)] rho σ (some (0, q.1), rho, q.2) := by
  refine Ms.of 0 (by decide +kernel) rfl (fun z => absurd z (by decide)) (fun _ _ _ => trivial) rfl rfl ?_
  unfold f_X10_whatIf at h
  show Ev M_X10_whatIf 218 218 _ 0 218 rho σ [(2, (0 : Int)), (0, x1), (0, x2)] []
  refine ev_aload_n dX10_whatIf_0 rfl (by decide) ?_
  refine ev_getf (j := 0) (t := 2) (x := (1 : Int)) dX10_whatIf_1 cf_X10 wf_X10_12 sp0 (by decide) (by decide) rfl (by decide) (rp0_0 _) ?_
  refine ev_iload_n dX10_whatIf_4 rfl ?_
  obtain ⟨v1, hc2, h⟩ := bind_of h
  refine ev_invV_v (k := (1 : Int)) (av := [(0, x1)]) (st := []) (v := (0, v1)) (τ := σ) dX10_whatIf_5 ml_X10_122 mv_X0_hasCand (T := TX0) (ci := 0) rfl sp1 (by decide) (by decide) rfl ⟨Nat.le_of_ble_eq_true rfl, Nat.le_of_ble_eq_true rfl⟩ (Nat.le_of_ble_eq_true rfl) (c_X0_hasCand hB1 hc2) ?_
  refine ev_if_eq (tgt := 23) dX10_whatIf_8 rfl h (fun cb h => ?_) (fun cb h => ?_)
  · exact ev_sub (L2 := [(2, (0 : Int)), (9, 0), (9, 0)]) (e_X10_whatIf_23 σ h) ⟨.inr rfl, .inl rfl, .inl rfl, trivial⟩
  refine ev_aload_n dX10_whatIf_11 rfl (by decide) ?_
  refine ev_getf (j := 0) (t := 2) (x := (1 : Int)) dX10_whatIf_12 cf_X10 wf_X10_12 sp0 (by decide) (by decide) rfl (by decide) (rp0_0 _) ?_
  refine ev_iload_n dX10_whatIf_15 rfl ?_
  refine ev_i2lk dX10_whatIf_16 ?_
  obtain ⟨v3, hc4, h⟩ := bind_of h
  refine ev_invV_v (k := (1 : Int)) (av := [(1, x2)]) (st := []) (v := (0, v3)) (τ := σ) dX10_whatIf_17 ml_X10_164 mv_X0_hasPaper (T := TX0) (ci := 0) rfl sp1 (by decide) (by decide) rfl ⟨Nat.le_of_ble_eq_true rfl, Nat.le_of_ble_eq_true rfl⟩ (Nat.le_of_ble_eq_true rfl) (c_X0_hasPaper hB1 hc4) ?_
  refine ev_if_ne (tgt := 30) dX10_whatIf_20 rfl h (fun cb h => ?_) (fun cb h => ?_)
  · refine ev_aload_n dX10_whatIf_30 rfl (by decide) ?_
    refine ev_getf (j := 0) (t := 2) (x := (1 : Int)) dX10_whatIf_31 cf_X10 wf_X10_12 sp0 (by decide) (by decide) rfl (by decide) (rp0_0 _) ?_
    refine ev_iload_n dX10_whatIf_34 rfl ?_
    refine ev_iload_n dX10_whatIf_35 rfl ?_
    obtain ⟨v5, hc6, h⟩ := bind_of h
    refine ev_invV_v (k := (1 : Int)) (av := [(0, x1), (0, x2)]) (st := []) (v := (0, v5)) (τ := σ) dX10_whatIf_36 ml_X10_191 mv_X0_mayFlip (T := TX0) (ci := 0) rfl sp1 (by decide) (by decide) rfl ⟨Nat.le_of_ble_eq_true rfl, Nat.le_of_ble_eq_true rfl⟩ (Nat.le_of_ble_eq_true rfl) (c_X0_mayFlip hB1 hc6) ?_
    refine ev_if_ne (tgt := 49) dX10_whatIf_39 rfl h (fun cb h => ?_) (fun cb h => ?_)
    · refine ev_aload_n dX10_whatIf_49 rfl (by decide) ?_
      refine ev_getf (j := 1) (t := 2) (x := (10 : Int)) dX10_whatIf_50 cf_X10 wf_X10_16 sp0 (by decide) (by decide) rfl (by decide) (rp0_1 _) ?_
      refine ev_aload_n dX10_whatIf_53 rfl (by decide) ?_
      refine ev_getf (j := 0) (t := 2) (x := (1 : Int)) dX10_whatIf_54 cf_X10 wf_X10_12 sp0 (by decide) (by decide) rfl (by decide) (rp0_0 _) ?_
      obtain ⟨σ7, hc8, h⟩ := bind_of h
      refine ev_invV_n (k := (10 : Int)) (av := [(2, (1 : Int))]) (st := []) (τ := σ7) dX10_whatIf_57 ml_X10_226 mv_X0_become (T := TX0) (ci := 0) rfl sp10 (by decide) (by decide) rfl ⟨Nat.le_of_ble_eq_true rfl, Nat.le_of_ble_eq_true rfl⟩ (Nat.le_of_ble_eq_true rfl) (c_X0_become hB10 hB1 hc8) ?_
      refine ev_aload_n dX10_whatIf_60 rfl (by decide) ?_
      refine ev_iload_n dX10_whatIf_61 rfl ?_
      refine ev_iload_n dX10_whatIf_62 rfl ?_
      obtain ⟨v9, hc10, h⟩ := bind_of h
      refine ev_invV_v (k := (0 : Int)) (av := [(0, x1), (0, x2)]) (st := []) (v := (0, v9.1)) (τ := v9.2) dX10_whatIf_63 ml_X10_371 mv_X10_cantsFlipped (T := TX10) (ci := 9) rfl sp0 (by decide) (by decide) rfl ⟨Nat.le_of_ble_eq_true rfl, Nat.le_of_ble_eq_true rfl⟩ (Nat.le_of_ble_eq_true rfl) (c_X10_cantsFlipped hc10) ?_
      obtain rfl := Option.some.inj h
      dsimp only
      exact ev_iret dX10_whatIf_66 rfl rfl
    refine ev_aload_n dX10_whatIf_42 rfl (by decide) ?_
    refine ev_bipush dX10_whatIf_43 (by decide) (by decide) ?_
    obtain ⟨v11, hc12, h⟩ := bind_of h
    refine ev_invV_v (k := (0 : Int)) (av := [(0, (-55 : Int))]) (st := []) (v := (0, v11.1)) (τ := v11.2) dX10_whatIf_45 ml_X10_88 mv_X10_refuse (T := TX10) (ci := 9) rfl sp0 (by decide) (by decide) rfl ⟨Nat.le_of_ble_eq_true rfl, Nat.le_of_ble_eq_true rfl⟩ (Nat.le_of_ble_eq_true rfl) (c_X10_refuse hc12) ?_
    obtain rfl := Option.some.inj h
    dsimp only
    exact ev_iret dX10_whatIf_48 rfl rfl
  exact ev_sub (L2 := [(2, (0 : Int)), (9, 0), (9, 0)]) (e_X10_whatIf_23 σ h) ⟨.inr rfl, .inl rfl, .inl rfl, trivial⟩
set_option maxHeartbeats 4000000 in
set_option maxRecDepth 20000 in
theorem e_X10_both_35 (σ : Mem)  {q : (Int × Mem)} (h : f_X10_both_35 σ  = some q) : Ev M_X10_both 218 218 (some (0, q.1), rho, q.2) 35 218 rho σ [(2, (0 : Int)), (9, 0), (9, 0), (9, 0)] [] := by
  unfold f_X10_both_35 at h
  refine ev_aload_n dX10_both_35 rfl (by decide) ?_
  refine ev_bipush dX10_both_36 (by decide) (by decide) ?_
  obtain ⟨v25, hc26, h⟩ := bind_of h
  refine ev_invV_v (k := (0 : Int)) (av := [(0, (-52 : Int))]) (st := []) (v := (0, v25.1)) (τ := v25.2) dX10_both_38 ml_X10_88 mv_X10_refuse (T := TX10) (ci := 9) rfl sp0 (by decide) (by decide) rfl ⟨Nat.le_of_ble_eq_true rfl, Nat.le_of_ble_eq_true rfl⟩ (Nat.le_of_ble_eq_true rfl) (c_X10_refuse hc26) ?_
  obtain rfl := Option.some.inj h
  dsimp only
  exact ev_iret dX10_both_41 rfl rfl
set_option maxHeartbeats 4000000 in
set_option maxRecDepth 20000 in
theorem c_X10_both {σ : Mem} {x1 x2 x3 : Int}  {q : (Int × Mem)} (h : f_X10_both σ x1 x2 x3 = some q) : Ms yX10_both M_X10_both 218 218 [(2, (0 : Int)), (0, x1), (0, x2), (0, x3)] rho σ (some (0, q.1), rho, q.2) := by
  refine Ms.of 0 (by decide +kernel) rfl (fun z => absurd z (by decide)) (fun _ _ _ => trivial) rfl rfl ?_
  unfold f_X10_both at h
  show Ev M_X10_both 218 218 _ 0 218 rho σ [(2, (0 : Int)), (0, x1), (0, x2), (0, x3)] []
  refine ev_aload_n dX10_both_0 rfl (by decide) ?_
  refine ev_getf (j := 0) (t := 2) (x := (1 : Int)) dX10_both_1 cf_X10 wf_X10_12 sp0 (by decide) (by decide) rfl (by decide) (rp0_0 _) ?_
  refine ev_iload_n dX10_both_4 rfl ?_
  obtain ⟨v1, hc2, h⟩ := bind_of h
  refine ev_invV_v (k := (1 : Int)) (av := [(0, x1)]) (st := []) (v := (0, v1)) (τ := σ) dX10_both_5 ml_X10_122 mv_X0_hasCand (T := TX0) (ci := 0) rfl sp1 (by decide) (by decide) rfl ⟨Nat.le_of_ble_eq_true rfl, Nat.le_of_ble_eq_true rfl⟩ (Nat.le_of_ble_eq_true rfl) (c_X0_hasCand hB1 hc2) ?_
  refine ev_if_eq (tgt := 35) dX10_both_8 rfl h (fun cb h => ?_) (fun cb h => ?_)
  · exact ev_sub (L2 := [(2, (0 : Int)), (9, 0), (9, 0), (9, 0)]) (e_X10_both_35 σ h) ⟨.inr rfl, .inl rfl, .inl rfl, .inl rfl, trivial⟩
  refine ev_aload_n dX10_both_11 rfl (by decide) ?_
  refine ev_getf (j := 0) (t := 2) (x := (1 : Int)) dX10_both_12 cf_X10 wf_X10_12 sp0 (by decide) (by decide) rfl (by decide) (rp0_0 _) ?_
  refine ev_iload_n dX10_both_15 rfl ?_
  refine ev_i2lk dX10_both_16 ?_
  obtain ⟨v3, hc4, h⟩ := bind_of h
  refine ev_invV_v (k := (1 : Int)) (av := [(1, x2)]) (st := []) (v := (0, v3)) (τ := σ) dX10_both_17 ml_X10_164 mv_X0_hasPaper (T := TX0) (ci := 0) rfl sp1 (by decide) (by decide) rfl ⟨Nat.le_of_ble_eq_true rfl, Nat.le_of_ble_eq_true rfl⟩ (Nat.le_of_ble_eq_true rfl) (c_X0_hasPaper hB1 hc4) ?_
  refine ev_if_eq (tgt := 35) dX10_both_20 rfl h (fun cb h => ?_) (fun cb h => ?_)
  · exact ev_sub (L2 := [(2, (0 : Int)), (9, 0), (9, 0), (9, 0)]) (e_X10_both_35 σ h) ⟨.inr rfl, .inl rfl, .inl rfl, .inl rfl, trivial⟩
  refine ev_aload_n dX10_both_23 rfl (by decide) ?_
  refine ev_getf (j := 0) (t := 2) (x := (1 : Int)) dX10_both_24 cf_X10 wf_X10_12 sp0 (by decide) (by decide) rfl (by decide) (rp0_0 _) ?_
  refine ev_iload_n dX10_both_27 rfl ?_
  refine ev_i2lk dX10_both_28 ?_
  obtain ⟨v5, hc6, h⟩ := bind_of h
  refine ev_invV_v (k := (1 : Int)) (av := [(1, x3)]) (st := []) (v := (0, v5)) (τ := σ) dX10_both_29 ml_X10_164 mv_X0_hasPaper (T := TX0) (ci := 0) rfl sp1 (by decide) (by decide) rfl ⟨Nat.le_of_ble_eq_true rfl, Nat.le_of_ble_eq_true rfl⟩ (Nat.le_of_ble_eq_true rfl) (c_X0_hasPaper hB1 hc6) ?_
  refine ev_if_ne (tgt := 42) dX10_both_32 rfl h (fun cb h => ?_) (fun cb h => ?_)
  · refine ev_aload_n dX10_both_42 rfl (by decide) ?_
    refine ev_getf (j := 1) (t := 2) (x := (10 : Int)) dX10_both_43 cf_X10 wf_X10_16 sp0 (by decide) (by decide) rfl (by decide) (rp0_1 _) ?_
    refine ev_aload_n dX10_both_46 rfl (by decide) ?_
    refine ev_getf (j := 0) (t := 2) (x := (1 : Int)) dX10_both_47 cf_X10 wf_X10_12 sp0 (by decide) (by decide) rfl (by decide) (rp0_0 _) ?_
    obtain ⟨σ7, hc8, h⟩ := bind_of h
    refine ev_invV_n (k := (10 : Int)) (av := [(2, (1 : Int))]) (st := []) (τ := σ7) dX10_both_50 ml_X10_226 mv_X0_become (T := TX0) (ci := 0) rfl sp10 (by decide) (by decide) rfl ⟨Nat.le_of_ble_eq_true rfl, Nat.le_of_ble_eq_true rfl⟩ (Nat.le_of_ble_eq_true rfl) (c_X0_become hB10 hB1 hc8) ?_
    refine ev_aload_n dX10_both_53 rfl (by decide) ?_
    refine ev_getf (j := 1) (t := 2) (x := (10 : Int)) dX10_both_54 cf_X10 wf_X10_16 sp0 (by decide) (by decide) rfl (by decide) (rp0_1 _) ?_
    refine ev_iload_n dX10_both_57 rfl ?_
    refine ev_iload_n dX10_both_58 rfl ?_
    obtain ⟨v9, hc10, h⟩ := bind_of h
    refine ev_invV_v (k := (10 : Int)) (av := [(0, x1), (0, x2)]) (st := []) (v := (0, v9)) (τ := σ7) dX10_both_59 ml_X10_191 mv_X0_mayFlip (T := TX0) (ci := 0) rfl sp10 (by decide) (by decide) rfl ⟨Nat.le_of_ble_eq_true rfl, Nat.le_of_ble_eq_true rfl⟩ (Nat.le_of_ble_eq_true rfl) (c_X0_mayFlip hB10 hc10) ?_
    refine ev_if_ne (tgt := 72) dX10_both_62 rfl h (fun cb h => ?_) (fun cb h => ?_)
    · refine ev_aload_n dX10_both_72 rfl (by decide) ?_
      refine ev_getf (j := 1) (t := 2) (x := (10 : Int)) dX10_both_73 cf_X10 wf_X10_16 sp0 (by decide) (by decide) rfl (by decide) (rp0_1 _) ?_
      refine ev_iload_n dX10_both_76 rfl ?_
      refine ev_iload_n dX10_both_77 rfl ?_
      obtain ⟨σ11, hc12, h⟩ := bind_of h
      refine ev_invV_n (k := (10 : Int)) (av := [(0, x1), (0, x2)]) (st := []) (τ := σ11) dX10_both_78 ml_X10_194 mv_X0_flip (T := TX0) (ci := 0) rfl sp10 (by decide) (by decide) rfl ⟨Nat.le_of_ble_eq_true rfl, Nat.le_of_ble_eq_true rfl⟩ (Nat.le_of_ble_eq_true rfl) (c_X0_flip hB10 hc12) ?_
      refine ev_aload_n dX10_both_81 rfl (by decide) ?_
      refine ev_getf (j := 1) (t := 2) (x := (10 : Int)) dX10_both_82 cf_X10 wf_X10_16 sp0 (by decide) (by decide) rfl (by decide) (rp0_1 _) ?_
      refine ev_iload_n dX10_both_85 rfl ?_
      refine ev_iload_n dX10_both_86 rfl ?_
      obtain ⟨v13, hc14, h⟩ := bind_of h
      refine ev_invV_v (k := (10 : Int)) (av := [(0, x1), (0, x3)]) (st := []) (v := (0, v13)) (τ := σ11) dX10_both_87 ml_X10_191 mv_X0_mayFlip (T := TX0) (ci := 0) rfl sp10 (by decide) (by decide) rfl ⟨Nat.le_of_ble_eq_true rfl, Nat.le_of_ble_eq_true rfl⟩ (Nat.le_of_ble_eq_true rfl) (c_X0_mayFlip hB10 hc14) ?_
      refine ev_if_ne (tgt := 100) dX10_both_90 rfl h (fun cb h => ?_) (fun cb h => ?_)
      · refine ev_aload_n dX10_both_100 rfl (by decide) ?_
        refine ev_getf (j := 1) (t := 2) (x := (10 : Int)) dX10_both_101 cf_X10 wf_X10_16 sp0 (by decide) (by decide) rfl (by decide) (rp0_1 _) ?_
        refine ev_iload_n dX10_both_104 rfl ?_
        refine ev_iload_n dX10_both_105 rfl ?_
        obtain ⟨σ15, hc16, h⟩ := bind_of h
        refine ev_invV_n (k := (10 : Int)) (av := [(0, x1), (0, x3)]) (st := []) (τ := σ15) dX10_both_106 ml_X10_194 mv_X0_flip (T := TX0) (ci := 0) rfl sp10 (by decide) (by decide) rfl ⟨Nat.le_of_ble_eq_true rfl, Nat.le_of_ble_eq_true rfl⟩ (Nat.le_of_ble_eq_true rfl) (c_X0_flip hB10 hc16) ?_
        refine ev_aload_n dX10_both_109 rfl (by decide) ?_
        refine ev_getf (j := 7) (t := 2) (x := (35 : Int)) dX10_both_110 cf_X10 wf_X10_43 sp0 (by decide) (by decide) rfl (by decide) (rp0_7 _) ?_
        refine ev_aload_n dX10_both_113 rfl (by decide) ?_
        refine ev_getf (j := 1) (t := 2) (x := (10 : Int)) dX10_both_114 cf_X10 wf_X10_16 sp0 (by decide) (by decide) rfl (by decide) (rp0_1 _) ?_
        refine ev_iload_n dX10_both_117 rfl ?_
        refine ev_aload_n dX10_both_118 rfl (by decide) ?_
        show Ev _ _ _ _ 119 _ _ _ _ _
        refine ev_getf (j := 9) (t := 2) (x := (154 : Int)) dX10_both_119 cf_X10 wf_X10_57 sp0 (by decide) (by decide) rfl (by decide) (rp0_9 _) ?_
        obtain ⟨σ17, hc18, h⟩ := bind_of h
        refine ev_invV_n (k := (35 : Int)) (av := [(2, (10 : Int)), (0, x1), (2, (154 : Int))]) (st := []) (τ := σ17) dX10_both_122 ml_X10_374 mv_X4_planWeek (T := TX4) (ci := 3) rfl sp35 (by decide) (by decide) rfl ⟨Nat.le_of_ble_eq_true rfl, Nat.le_of_ble_eq_true rfl⟩ (Nat.le_of_ble_eq_true rfl) (c_X4_planWeek hB10 hW154 hc18) ?_
        refine ev_aload_n dX10_both_125 rfl (by decide) ?_
        refine ev_getf (j := 9) (t := 2) (x := (154 : Int)) dX10_both_126 cf_X10 wf_X10_57 sp0 (by decide) (by decide) rfl (by decide) (rp0_9 _) ?_
        obtain ⟨v19, hc20, h⟩ := bind_of h
        refine ev_invV_v (k := (154 : Int)) (av := []) (st := []) (v := (0, v19)) (τ := σ17) dX10_both_129 ml_X10_378 mv_X8_keptSlots (T := TX8) (ci := 7) rfl sp154 (by decide) (by decide) rfl ⟨Nat.le_of_ble_eq_true rfl, Nat.le_of_ble_eq_true rfl⟩ (Nat.le_of_ble_eq_true rfl) (c_X8_keptSlots hW154 hc20) ?_
        obtain rfl := Option.some.inj h
        dsimp only
        exact ev_iret dX10_both_132 rfl rfl
      refine ev_aload_n dX10_both_93 rfl (by decide) ?_
      refine ev_bipush dX10_both_94 (by decide) (by decide) ?_
      obtain ⟨v21, hc22, h⟩ := bind_of h
      refine ev_invV_v (k := (0 : Int)) (av := [(0, (-55 : Int))]) (st := []) (v := (0, v21.1)) (τ := v21.2) dX10_both_96 ml_X10_88 mv_X10_refuse (T := TX10) (ci := 9) rfl sp0 (by decide) (by decide) rfl ⟨Nat.le_of_ble_eq_true rfl, Nat.le_of_ble_eq_true rfl⟩ (Nat.le_of_ble_eq_true rfl) (c_X10_refuse hc22) ?_
      obtain rfl := Option.some.inj h
      dsimp only
      exact ev_iret dX10_both_99 rfl rfl
    refine ev_aload_n dX10_both_65 rfl (by decide) ?_
    refine ev_bipush dX10_both_66 (by decide) (by decide) ?_
    obtain ⟨v23, hc24, h⟩ := bind_of h
    refine ev_invV_v (k := (0 : Int)) (av := [(0, (-55 : Int))]) (st := []) (v := (0, v23.1)) (τ := v23.2) dX10_both_68 ml_X10_88 mv_X10_refuse (T := TX10) (ci := 9) rfl sp0 (by decide) (by decide) rfl ⟨Nat.le_of_ble_eq_true rfl, Nat.le_of_ble_eq_true rfl⟩ (Nat.le_of_ble_eq_true rfl) (c_X10_refuse hc24) ?_
    obtain rfl := Option.some.inj h
    dsimp only
    exact ev_iret dX10_both_71 rfl rfl
  exact ev_sub (L2 := [(2, (0 : Int)), (9, 0), (9, 0), (9, 0)]) (e_X10_both_35 σ h) ⟨.inr rfl, .inl rfl, .inl rfl, .inl rfl, trivial⟩
def K_X10_relief_36 (x1 : Int) (r : Option V × Mem × Mem) : (Int × Int × Int × Mem) ⊕ ((Int × Mem)) → Prop := Sum.elim (fun a => Ev M_X10_relief 218 218 r 36 218 rho a.2.2.2 [(2, (0 : Int)), (0, x1), (0, a.1), (0, a.2.1), (0, a.2.2.1), (9, 0)] []) (fun e => Ev M_X10_relief 218 218 r 93 218 rho e.2 [(9, 0), (9, 0), (0, e.1), (9, 0), (9, 0), (9, 0)] [])
set_option maxHeartbeats 4000000 in
set_option maxRecDepth 20000 in
theorem e_X10_relief_87 (σ : Mem) (x1 x2 x3 x4 : Int)  {q : ((Int × Int × Int × Mem) ⊕ ((Int × Mem)))} (h : f_X10_relief_87 σ x1 x2 x3 x4 = some q) {r : Option V × Mem × Mem} (K : K_X10_relief_36 x1 r q) : Ev M_X10_relief 218 218 r 87 218 rho σ [(2, (0 : Int)), (0, x1), (0, x2), (0, x3), (0, x4), (9, 0)] [] := by
  unfold f_X10_relief_87 at h
  refine ev_iincG dX10_relief_87 rfl h rfl (fun v12 h => ?_)
  show Ev _ _ _ _ 90 _ _ _ [(2, (0 : Int)), (0, x1), (0, x2), (0, x3), (0, v12), (9, 0)] _
  refine ev_goto (tgt := 36) dX10_relief_90 rfl ?_
  obtain rfl := Option.some.inj h
  exact ev_sub (L2 := [(2, (0 : Int)), (0, x1), (0, x2), (0, x3), (0, v12), (9, 0)]) K ⟨.inr rfl, .inr rfl, .inr rfl, .inr rfl, .inr rfl, .inl rfl, trivial⟩
set_option maxHeartbeats 4000000 in
set_option maxRecDepth 20000 in
theorem e_X10_relief_81 (σ : Mem) (x1 x4 x5 : Int)  {q : ((Int × Int × Int × Mem) ⊕ ((Int × Mem)))} (h : f_X10_relief_81 σ x1 x4 x5 = some q) {r : Option V × Mem × Mem} (K : K_X10_relief_36 x1 r q) : Ev M_X10_relief 218 218 r 81 218 rho σ [(2, (0 : Int)), (0, x1), (9, 0), (9, 0), (0, x4), (0, x5)] [] := by
  unfold f_X10_relief_81 at h
  refine ev_iload dX10_relief_81 rfl ?_
  refine ev_istore_n dX10_relief_83 rfl (by decide) ?_
  show Ev _ _ _ _ 84 _ _ _ [(2, (0 : Int)), (0, x1), (0, x4), (9, 0), (0, x4), (0, x5)] _
  refine ev_iload dX10_relief_84 rfl ?_
  refine ev_istore_n dX10_relief_86 rfl (by decide) ?_
  show Ev _ _ _ _ 87 _ _ _ [(2, (0 : Int)), (0, x1), (0, x4), (0, x5), (0, x4), (0, x5)] _
  exact ev_sub (L2 := [(2, (0 : Int)), (0, x1), (0, x4), (0, x5), (0, x4), (9, 0)]) (e_X10_relief_87 σ x1 x4 x5 x4 h K) ⟨.inr rfl, .inr rfl, .inr rfl, .inr rfl, .inr rfl, .inl rfl, trivial⟩
set_option maxHeartbeats 4000000 in
set_option maxRecDepth 20000 in
theorem b_X10_relief_36 (x1 : Int)  {r : Option V × Mem × Mem} : ∀ a x, f_X10_relief_36B x1 a = some x → K_X10_relief_36 x1 r x → K_X10_relief_36 x1 r (.inl a) := by
  intro a x h K
  obtain ⟨x2, x3, x4, σ⟩ := a
  have h : f_X10_relief_36C x1 x2 x3 x4 σ = some x := h
  unfold f_X10_relief_36C at h
  show Ev M_X10_relief 218 218 r 36 218 rho σ [(2, (0 : Int)), (0, x1), (0, x2), (0, x3), (0, x4), (9, 0)] []
  refine ev_iload dX10_relief_36 rfl ?_
  refine ev_aload_n dX10_relief_38 rfl (by decide) ?_
  refine ev_getf (j := 1) (t := 2) (x := (10 : Int)) dX10_relief_39 cf_X10 wf_X10_16 sp0 (by decide) (by decide) rfl (by decide) (rp0_1 _) ?_
  refine ev_getf (j := 8) (t := 0) (x := (σ (10 : Int) 8)) dX10_relief_42 cf_X0 wf_X10_156 sp10 (by decide) (by decide) rfl (by decide) rfl ?_
  refine ev_icmp_ge (tgt := 93) dX10_relief_45 rfl h (fun cb h => ?_) (fun cb h => ?_)
  · obtain rfl := Option.some.inj h
    exact ev_sub (L2 := [(9, 0), (9, 0), (0, x2), (9, 0), (9, 0), (9, 0)]) K ⟨.inl rfl, .inl rfl, .inr rfl, .inl rfl, .inl rfl, .inl rfl, trivial⟩
  refine ev_aload_n dX10_relief_48 rfl (by decide) ?_
  refine ev_getf (j := 1) (t := 2) (x := (10 : Int)) dX10_relief_49 cf_X10 wf_X10_16 sp0 (by decide) (by decide) rfl (by decide) (rp0_1 _) ?_
  refine ev_iload_n dX10_relief_52 rfl ?_
  refine ev_iload dX10_relief_53 rfl ?_
  obtain ⟨v7, hc8, h⟩ := bind_of h
  refine ev_invV_v (k := (10 : Int)) (av := [(0, x1), (0, x4)]) (st := []) (v := (0, v7)) (τ := σ) dX10_relief_55 ml_X10_191 mv_X0_mayFlip (T := TX0) (ci := 0) rfl sp10 (by decide) (by decide) rfl ⟨Nat.le_of_ble_eq_true rfl, Nat.le_of_ble_eq_true rfl⟩ (Nat.le_of_ble_eq_true rfl) (c_X0_mayFlip hB10 hc8) ?_
  refine ev_if_eq (tgt := 87) dX10_relief_58 rfl h (fun cb h => ?_) (fun cb h => ?_)
  · exact ev_sub (L2 := [(2, (0 : Int)), (0, x1), (0, x2), (0, x3), (0, x4), (9, 0)]) (e_X10_relief_87 σ x1 x2 x3 x4 h K) ⟨.inr rfl, .inr rfl, .inr rfl, .inr rfl, .inr rfl, .inl rfl, trivial⟩
  refine ev_aload_n dX10_relief_61 rfl (by decide) ?_
  refine ev_iload_n dX10_relief_62 rfl ?_
  refine ev_iload dX10_relief_63 rfl ?_
  obtain ⟨v9, hc10, h⟩ := bind_of h
  refine ev_invV_v (k := (0 : Int)) (av := [(0, x1), (0, x4)]) (st := []) (v := (0, v9.1)) (τ := v9.2) dX10_relief_65 ml_X10_371 mv_X10_cantsFlipped (T := TX10) (ci := 9) rfl sp0 (by decide) (by decide) rfl ⟨Nat.le_of_ble_eq_true rfl, Nat.le_of_ble_eq_true rfl⟩ (Nat.le_of_ble_eq_true rfl) (c_X10_cantsFlipped hc10) ?_
  refine ev_istoreG dX10_relief_68 h rfl (by decide) (fun v11 h => ?_)
  show Ev _ _ _ _ 70 _ _ _ [(2, (0 : Int)), (0, x1), (0, x2), (0, x3), (0, x4), (0, v11)] _
  refine ev_iload_n dX10_relief_70 rfl ?_
  refine ev_iconst dX10_relief_71 (by decide) ?_
  refine ev_icmp_eq (tgt := 81) dX10_relief_72 rfl h (fun cb h => ?_) (fun cb h => ?_)
  · exact ev_sub (L2 := [(2, (0 : Int)), (0, x1), (9, 0), (9, 0), (0, x4), (0, v11)]) (e_X10_relief_81 v9.2 x1 x4 v11 h K) ⟨.inr rfl, .inr rfl, .inl rfl, .inl rfl, .inr rfl, .inr rfl, trivial⟩
  refine ev_iload dX10_relief_75 rfl ?_
  refine ev_iload_n dX10_relief_77 rfl ?_
  refine ev_icmp_ge (tgt := 87) dX10_relief_78 rfl h (fun cb h => ?_) (fun cb h => ?_)
  · exact ev_sub (L2 := [(2, (0 : Int)), (0, x1), (0, x2), (0, x3), (0, x4), (9, 0)]) (e_X10_relief_87 v9.2 x1 x2 x3 x4 h K) ⟨.inr rfl, .inr rfl, .inr rfl, .inr rfl, .inr rfl, .inl rfl, trivial⟩
  exact ev_sub (L2 := [(2, (0 : Int)), (0, x1), (9, 0), (9, 0), (0, x4), (0, v11)]) (e_X10_relief_81 v9.2 x1 x4 v11 h K) ⟨.inr rfl, .inr rfl, .inl rfl, .inl rfl, .inr rfl, .inr rfl, trivial⟩
set_option maxHeartbeats 4000000 in
set_option maxRecDepth 20000 in
theorem e_X10_relief_36 (σ : Mem) (x1 x2 x3 x4 : Int)  {q : (Int × Mem)} (h : f_X10_relief_36 σ x1 x2 x3 x4 = some q) : Ev M_X10_relief 218 218 (some (0, q.1), rho, q.2) 36 218 rho σ [(2, (0 : Int)), (0, x1), (0, x2), (0, x3), (0, x4), (9, 0)] [] := by
  unfold f_X10_relief_36 at h
  obtain ⟨e, hl, h⟩ := bind_of h
  refine loop_ev (K := K_X10_relief_36 x1 (some (0, q.1), rho, q.2)) (b_X10_relief_36 x1) FU (x2, x3, x4, σ) e hl ?_
  show Ev M_X10_relief 218 218 _ 93 218 rho e.2 [(9, 0), (9, 0), (0, e.1), (9, 0), (9, 0), (9, 0)] []
  replace h : some (e.1, e.2) = some q := h
  refine ev_iload_n dX10_relief_93 rfl ?_
  obtain rfl := Option.some.inj h
  dsimp only
  exact ev_iret dX10_relief_94 rfl rfl
set_option maxHeartbeats 4000000 in
set_option maxRecDepth 20000 in
theorem c_X10_relief {σ : Mem} {x1 : Int}  {q : (Int × Mem)} (h : f_X10_relief σ x1 = some q) : Ms yX10_relief M_X10_relief 218 218 [(2, (0 : Int)), (0, x1)] rho σ (some (0, q.1), rho, q.2) := by
  refine Ms.of 4 (by decide +kernel) rfl (fun z => absurd z (by decide)) (fun _ _ _ => trivial) rfl rfl ?_
  unfold f_X10_relief at h
  show Ev M_X10_relief 218 218 _ 0 218 rho σ [(2, (0 : Int)), (0, x1), (9, 0), (9, 0), (9, 0), (9, 0)] []
  refine ev_aload_n dX10_relief_0 rfl (by decide) ?_
  refine ev_getf (j := 0) (t := 2) (x := (1 : Int)) dX10_relief_1 cf_X10 wf_X10_12 sp0 (by decide) (by decide) rfl (by decide) (rp0_0 _) ?_
  refine ev_iload_n dX10_relief_4 rfl ?_
  obtain ⟨v1, hc2, h⟩ := bind_of h
  refine ev_invV_v (k := (1 : Int)) (av := [(0, x1)]) (st := []) (v := (0, v1)) (τ := σ) dX10_relief_5 ml_X10_122 mv_X0_hasCand (T := TX0) (ci := 0) rfl sp1 (by decide) (by decide) rfl ⟨Nat.le_of_ble_eq_true rfl, Nat.le_of_ble_eq_true rfl⟩ (Nat.le_of_ble_eq_true rfl) (c_X0_hasCand hB1 hc2) ?_
  refine ev_if_ne (tgt := 18) dX10_relief_8 rfl h (fun cb h => ?_) (fun cb h => ?_)
  · refine ev_aload_n dX10_relief_18 rfl (by decide) ?_
    refine ev_getf (j := 1) (t := 2) (x := (10 : Int)) dX10_relief_19 cf_X10 wf_X10_16 sp0 (by decide) (by decide) rfl (by decide) (rp0_1 _) ?_
    refine ev_aload_n dX10_relief_22 rfl (by decide) ?_
    refine ev_getf (j := 0) (t := 2) (x := (1 : Int)) dX10_relief_23 cf_X10 wf_X10_12 sp0 (by decide) (by decide) rfl (by decide) (rp0_0 _) ?_
    obtain ⟨σ3, hc4, h⟩ := bind_of h
    refine ev_invV_n (k := (10 : Int)) (av := [(2, (1 : Int))]) (st := []) (τ := σ3) dX10_relief_26 ml_X10_226 mv_X0_become (T := TX0) (ci := 0) rfl sp10 (by decide) (by decide) rfl ⟨Nat.le_of_ble_eq_true rfl, Nat.le_of_ble_eq_true rfl⟩ (Nat.le_of_ble_eq_true rfl) (c_X0_become hB10 hB1 hc4) ?_
    refine ev_iconst dX10_relief_29 (by decide) ?_
    refine ev_istore_n dX10_relief_30 rfl (by decide) ?_
    show Ev _ _ _ _ 31 _ _ _ [(2, (0 : Int)), (0, x1), (0, (-1 : Int)), (9, 0), (9, 0), (9, 0)] _
    refine ev_iconst dX10_relief_31 (by decide) ?_
    refine ev_istore_n dX10_relief_32 rfl (by decide) ?_
    show Ev _ _ _ _ 33 _ _ _ [(2, (0 : Int)), (0, x1), (0, (-1 : Int)), (0, (0 : Int)), (9, 0), (9, 0)] _
    refine ev_iconst dX10_relief_33 (by decide) ?_
    refine ev_istore dX10_relief_34 rfl (by decide) ?_
    show Ev _ _ _ _ 36 _ _ _ [(2, (0 : Int)), (0, x1), (0, (-1 : Int)), (0, (0 : Int)), (0, (0 : Int)), (9, 0)] _
    exact ev_sub (L2 := [(2, (0 : Int)), (0, x1), (0, (-1 : Int)), (0, (0 : Int)), (0, (0 : Int)), (9, 0)]) (e_X10_relief_36 σ3 x1 (-1 : Int) (0 : Int) (0 : Int) h) ⟨.inr rfl, .inr rfl, .inr rfl, .inr rfl, .inr rfl, .inl rfl, trivial⟩
  refine ev_aload_n dX10_relief_11 rfl (by decide) ?_
  refine ev_bipush dX10_relief_12 (by decide) (by decide) ?_
  obtain ⟨v5, hc6, h⟩ := bind_of h
  refine ev_invV_v (k := (0 : Int)) (av := [(0, (-52 : Int))]) (st := []) (v := (0, v5.1)) (τ := v5.2) dX10_relief_14 ml_X10_88 mv_X10_refuse (T := TX10) (ci := 9) rfl sp0 (by decide) (by decide) rfl ⟨Nat.le_of_ble_eq_true rfl, Nat.le_of_ble_eq_true rfl⟩ (Nat.le_of_ble_eq_true rfl) (c_X10_refuse hc6) ?_
  obtain rfl := Option.some.inj h
  dsimp only
  exact ev_iret dX10_relief_17 rfl rfl
def K_X10_tryStarts_45 (x1 x2 : Int) (r : Option V × Mem × Mem) : (Int × Mem) ⊕ ((Mem)) → Prop := Sum.elim (fun a => Ev M_X10_tryStarts 218 218 r 45 218 rho a.2 [(2, (0 : Int)), (0, x1), (0, x2), (0, a.1)] []) (fun e => Ev M_X10_tryStarts 218 218 r 150 218 rho e [(2, (0 : Int)), (0, x1), (0, x2), (9, 0)] [])
def K_X10_tryStarts_13 (x1 : Int) (r : Option V × Mem × Mem) : (Int × Mem) ⊕ ((Mem)) → Prop := Sum.elim (fun a => Ev M_X10_tryStarts 218 218 r 13 218 rho a.2 [(2, (0 : Int)), (0, x1), (0, a.1), (9, 0)] []) (fun e => Ev M_X10_tryStarts 218 218 r 156 218 rho e [(9, 0), (9, 0), (9, 0), (9, 0)] [])
set_option maxHeartbeats 4000000 in
set_option maxRecDepth 20000 in
theorem e_X10_tryStarts_144 (σ : Mem) (x1 x2 x3 : Int)  {q : ((Int × Mem) ⊕ ((Mem)))} (h : f_X10_tryStarts_144 σ x1 x2 x3 = some q) {r : Option V × Mem × Mem} (K : K_X10_tryStarts_45 x1 x2 r q) : Ev M_X10_tryStarts 218 218 r 144 218 rho σ [(2, (0 : Int)), (0, x1), (0, x2), (0, x3)] [] := by
  unfold f_X10_tryStarts_144 at h
  refine ev_iincG dX10_tryStarts_144 rfl h rfl (fun v21 h => ?_)
  show Ev _ _ _ _ 147 _ _ _ [(2, (0 : Int)), (0, x1), (0, x2), (0, v21)] _
  refine ev_goto (tgt := 45) dX10_tryStarts_147 rfl ?_
  obtain rfl := Option.some.inj h
  exact ev_sub (L2 := [(2, (0 : Int)), (0, x1), (0, x2), (0, v21)]) K ⟨.inr rfl, .inr rfl, .inr rfl, .inr rfl, trivial⟩
set_option maxHeartbeats 4000000 in
set_option maxRecDepth 20000 in
theorem e_X10_tryStarts_150 (σ : Mem) (x1 x2 : Int)  {q : ((Int × Mem) ⊕ ((Mem)))} (h : f_X10_tryStarts_150 σ x1 x2 = some q) {r : Option V × Mem × Mem} (K : K_X10_tryStarts_13 x1 r q) : Ev M_X10_tryStarts 218 218 r 150 218 rho σ [(2, (0 : Int)), (0, x1), (0, x2), (9, 0)] [] := by
  unfold f_X10_tryStarts_150 at h
  refine ev_iincG dX10_tryStarts_150 rfl h rfl (fun v22 h => ?_)
  show Ev _ _ _ _ 153 _ _ _ [(2, (0 : Int)), (0, x1), (0, v22), (9, 0)] _
  refine ev_goto (tgt := 13) dX10_tryStarts_153 rfl ?_
  obtain rfl := Option.some.inj h
  exact ev_sub (L2 := [(2, (0 : Int)), (0, x1), (0, v22), (9, 0)]) K ⟨.inr rfl, .inr rfl, .inr rfl, .inl rfl, trivial⟩
set_option maxHeartbeats 4000000 in
set_option maxRecDepth 20000 in
theorem b_X10_tryStarts_45 (x1 x2 : Int)  {r : Option V × Mem × Mem} : ∀ a x, f_X10_tryStarts_45B x1 x2 a = some x → K_X10_tryStarts_45 x1 x2 r x → K_X10_tryStarts_45 x1 x2 r (.inl a) := by
  intro a x h K
  obtain ⟨x3, σ⟩ := a
  have h : f_X10_tryStarts_45C x1 x2 x3 σ = some x := h
  unfold f_X10_tryStarts_45C at h
  show Ev M_X10_tryStarts 218 218 r 45 218 rho σ [(2, (0 : Int)), (0, x1), (0, x2), (0, x3)] []
  refine ev_iload_n dX10_tryStarts_45 rfl ?_
  refine ev_aload_n dX10_tryStarts_46 rfl (by decide) ?_
  refine ev_getf (j := 1) (t := 2) (x := (10 : Int)) dX10_tryStarts_47 cf_X10 wf_X10_16 sp0 (by decide) (by decide) rfl (by decide) (rp0_1 _) ?_
  refine ev_getf (j := 9) (t := 0) (x := (σ (10 : Int) 9)) dX10_tryStarts_50 cf_X0 wf_X10_174 sp10 (by decide) (by decide) rfl (by decide) rfl ?_
  refine ev_icmp_ge (tgt := 150) dX10_tryStarts_53 rfl h (fun cb h => ?_) (fun cb h => ?_)
  · obtain rfl := Option.some.inj h
    exact ev_sub (L2 := [(2, (0 : Int)), (0, x1), (0, x2), (9, 0)]) K ⟨.inr rfl, .inr rfl, .inr rfl, .inl rfl, trivial⟩
  refine ev_aload_n dX10_tryStarts_56 rfl (by decide) ?_
  refine ev_getf (j := 1) (t := 2) (x := (10 : Int)) dX10_tryStarts_57 cf_X10 wf_X10_16 sp0 (by decide) (by decide) rfl (by decide) (rp0_1 _) ?_
  refine ev_iload_n dX10_tryStarts_60 rfl ?_
  refine ev_iload_n dX10_tryStarts_61 rfl ?_
  obtain ⟨v6, hc7, h⟩ := bind_of h
  refine ev_invV_v (k := (10 : Int)) (av := [(0, x3), (0, x1)]) (st := []) (v := (0, v6)) (τ := σ) dX10_tryStarts_62 ml_X10_188 mv_X0_doesTake (T := TX0) (ci := 0) rfl sp10 (by decide) (by decide) rfl ⟨Nat.le_of_ble_eq_true rfl, Nat.le_of_ble_eq_true rfl⟩ (Nat.le_of_ble_eq_true rfl) (c_X0_doesTake hB10 hc7) ?_
  refine ev_if_eq (tgt := 144) dX10_tryStarts_65 rfl h (fun cb h => ?_) (fun cb h => ?_)
  · exact ev_sub (L2 := [(2, (0 : Int)), (0, x1), (0, x2), (0, x3)]) (e_X10_tryStarts_144 σ x1 x2 x3 h K) ⟨.inr rfl, .inr rfl, .inr rfl, .inr rfl, trivial⟩
  refine ev_aload_n dX10_tryStarts_68 rfl (by decide) ?_
  refine ev_getf (j := 9) (t := 2) (x := (154 : Int)) dX10_tryStarts_69 cf_X10 wf_X10_57 sp0 (by decide) (by decide) rfl (by decide) (rp0_9 _) ?_
  refine ev_aload_n dX10_tryStarts_72 rfl (by decide) ?_
  refine ev_getf (j := 8) (t := 2) (x := (43 : Int)) dX10_tryStarts_73 cf_X10 wf_X10_50 sp0 (by decide) (by decide) rfl (by decide) (rp0_8 _) ?_
  refine ev_aload_n dX10_tryStarts_76 rfl (by decide) ?_
  refine ev_getf (j := 0) (t := 2) (x := (1 : Int)) dX10_tryStarts_77 cf_X10 wf_X10_12 sp0 (by decide) (by decide) rfl (by decide) (rp0_0 _) ?_
  refine ev_iload_n dX10_tryStarts_80 rfl ?_
  obtain ⟨v8, hc9, h⟩ := bind_of h
  refine ev_invV_v (k := (43 : Int)) (av := [(2, (1 : Int)), (0, x3)]) (st := [(2, (154 : Int))]) (v := (2, v8.1)) (τ := v8.2) dX10_tryStarts_81 ml_X10_243 mv_X9_of (T := TX9) (ci := 8) rfl sp43 (by decide) (by decide) rfl ⟨Nat.le_of_ble_eq_true rfl, Nat.le_of_ble_eq_true rfl⟩ (Nat.le_of_ble_eq_true rfl) (c_X9_of hc9) ?_
  have hw10 := w_X9_of hc9
  obtain ⟨σ11, hc12, h⟩ := bind_of h
  refine ev_invV_n (k := (154 : Int)) (av := [(2, v8.1)]) (st := []) (τ := σ11) dX10_tryStarts_84 ml_X10_425 mv_X8_become (T := TX8) (ci := 7) rfl sp154 (by decide) (by decide) rfl ⟨Nat.le_of_ble_eq_true rfl, Nat.le_of_ble_eq_true rfl⟩ (Nat.le_of_ble_eq_true rfl) (c_X8_become hW154 hw10 hc12) ?_
  refine ev_aload_n dX10_tryStarts_87 rfl (by decide) ?_
  refine ev_getf (j := 7) (t := 2) (x := (35 : Int)) dX10_tryStarts_88 cf_X10 wf_X10_43 sp0 (by decide) (by decide) rfl (by decide) (rp0_7 _) ?_
  show Ev _ _ _ _ 91 _ _ _ _ _
  refine ev_aload_n dX10_tryStarts_91 rfl (by decide) ?_
  refine ev_getf (j := 1) (t := 2) (x := (10 : Int)) dX10_tryStarts_92 cf_X10 wf_X10_16 sp0 (by decide) (by decide) rfl (by decide) (rp0_1 _) ?_
  refine ev_iload_n dX10_tryStarts_95 rfl ?_
  refine ev_aload_n dX10_tryStarts_96 rfl (by decide) ?_
  refine ev_getf (j := 1) (t := 2) (x := (10 : Int)) dX10_tryStarts_97 cf_X10 wf_X10_16 sp0 (by decide) (by decide) rfl (by decide) (rp0_1 _) ?_
  refine ev_getf (j := 0) (t := 2) (x := (11 : Int)) dX10_tryStarts_100 cf_X0 wf_X10_250 sp10 (by decide) (by decide) rfl (by decide) (rp10_0 _) ?_
  refine ev_iload_n dX10_tryStarts_103 rfl ?_
  refine ev_iald dX10_tryStarts_104 sp11 (by decide) (by decide) h (fun h => ?_)
  refine ev_aload_n dX10_tryStarts_105 rfl (by decide) ?_
  refine ev_getf (j := 9) (t := 2) (x := (154 : Int)) dX10_tryStarts_106 cf_X10 wf_X10_57 sp0 (by decide) (by decide) rfl (by decide) (rp0_9 _) ?_
  obtain ⟨σ13, hc14, h⟩ := bind_of h
  refine ev_invV_n (k := (35 : Int)) (av := [(2, (10 : Int)), (0, x3), (0, (σ11 (11 : Int) x1)), (2, (154 : Int))]) (st := []) (τ := σ13) dX10_tryStarts_109 ml_X10_428 mv_X4_replan (T := TX4) (ci := 3) rfl sp35 (by decide) (by decide) rfl ⟨Nat.le_of_ble_eq_true rfl, Nat.le_of_ble_eq_true rfl⟩ (Nat.le_of_ble_eq_true rfl) (c_X4_replan hB10 hW154 hc14) ?_
  refine ev_aload_n dX10_tryStarts_112 rfl (by decide) ?_
  show Ev _ _ _ _ 113 _ _ _ _ _
  refine ev_getf (j := 12) (t := 2) (x := (179 : Int)) dX10_tryStarts_113 cf_X10 wf_X10_75 sp0 (by decide) (by decide) rfl (by decide) (rp0_12 _) ?_
  refine ev_iload_n dX10_tryStarts_116 rfl ?_
  refine ev_dup2 dX10_tryStarts_117 (show (0 : Nat) ≠ 1 by decide) (show (2 : Nat) ≠ 1 by decide) ?_
  refine ev_iald dX10_tryStarts_118 sp179 (by decide) (by decide) h (fun h => ?_)
  refine ev_aload_n dX10_tryStarts_119 rfl (by decide) ?_
  refine ev_getf (j := 9) (t := 2) (x := (154 : Int)) dX10_tryStarts_120 cf_X10 wf_X10_57 sp0 (by decide) (by decide) rfl (by decide) (rp0_9 _) ?_
  obtain ⟨v15, hc16, h⟩ := bind_of h
  refine ev_invV_v (k := (154 : Int)) (av := []) (st := [(0, (σ13 (179 : Int) x2)), (0, x2), (2, (179 : Int))]) (v := (0, v15)) (τ := σ13) dX10_tryStarts_123 ml_X10_247 mv_X8_cants (T := TX8) (ci := 7) rfl sp154 (by decide) (by decide) rfl ⟨Nat.le_of_ble_eq_true rfl, Nat.le_of_ble_eq_true rfl⟩ (Nat.le_of_ble_eq_true rfl) (c_X8_cants hW154 hc16) ?_
  refine ev_iadd dX10_tryStarts_126 ?_
  refine ev_iastG dX10_tryStarts_127 sp179 (by decide) (by decide) h (fun σ17 h => ?_)
  refine ev_aload_n dX10_tryStarts_128 rfl (by decide) ?_
  refine ev_getf (j := 13) (t := 2) (x := (180 : Int)) dX10_tryStarts_129 cf_X10 wf_X10_78 sp0 (by decide) (by decide) rfl (by decide) (rp0_13 _) ?_
  refine ev_iload_n dX10_tryStarts_132 rfl ?_
  show Ev _ _ _ _ 133 _ _ _ _ _
  refine ev_dup2 dX10_tryStarts_133 (show (0 : Nat) ≠ 1 by decide) (show (2 : Nat) ≠ 1 by decide) ?_
  refine ev_iald dX10_tryStarts_134 sp180 (by decide) (by decide) h (fun h => ?_)
  refine ev_aload_n dX10_tryStarts_135 rfl (by decide) ?_
  refine ev_getf (j := 9) (t := 2) (x := (154 : Int)) dX10_tryStarts_136 cf_X10 wf_X10_57 sp0 (by decide) (by decide) rfl (by decide) (rp0_9 _) ?_
  obtain ⟨v18, hc19, h⟩ := bind_of h
  refine ev_invV_v (k := (154 : Int)) (av := []) (st := [(0, (σ17 (180 : Int) x2)), (0, x2), (2, (180 : Int))]) (v := (0, v18)) (τ := σ17) dX10_tryStarts_139 ml_X10_378 mv_X8_keptSlots (T := TX8) (ci := 7) rfl sp154 (by decide) (by decide) rfl ⟨Nat.le_of_ble_eq_true rfl, Nat.le_of_ble_eq_true rfl⟩ (Nat.le_of_ble_eq_true rfl) (c_X8_keptSlots hW154 hc19) ?_
  refine ev_iadd dX10_tryStarts_142 ?_
  refine ev_iastG dX10_tryStarts_143 sp180 (by decide) (by decide) h (fun σ20 h => ?_)
  exact ev_sub (L2 := [(2, (0 : Int)), (0, x1), (0, x2), (0, x3)]) (e_X10_tryStarts_144 σ20 x1 x2 x3 h K) ⟨.inr rfl, .inr rfl, .inr rfl, .inr rfl, trivial⟩
set_option maxHeartbeats 4000000 in
set_option maxRecDepth 20000 in
theorem e_X10_tryStarts_45 (σ : Mem) (x1 x2 x3 : Int)  {q : ((Int × Mem) ⊕ ((Mem)))} (h : f_X10_tryStarts_45 σ x1 x2 x3 = some q) {r : Option V × Mem × Mem} (K : K_X10_tryStarts_13 x1 r q) : Ev M_X10_tryStarts 218 218 r 45 218 rho σ [(2, (0 : Int)), (0, x1), (0, x2), (0, x3)] [] := by
  unfold f_X10_tryStarts_45 at h
  obtain ⟨e, hl, h⟩ := bind_of h
  refine loop_ev (K := K_X10_tryStarts_45 x1 x2 r) (b_X10_tryStarts_45 x1 x2) FU (x3, σ) e hl ?_
  show Ev M_X10_tryStarts 218 218 r 150 218 rho e [(2, (0 : Int)), (0, x1), (0, x2), (9, 0)] []
  replace h : f_X10_tryStarts_150 e x1 x2 = some q := h
  exact ev_sub (L2 := [(2, (0 : Int)), (0, x1), (0, x2), (9, 0)]) (e_X10_tryStarts_150 e x1 x2 h K) ⟨.inr rfl, .inr rfl, .inr rfl, .inl rfl, trivial⟩
set_option maxHeartbeats 4000000 in
set_option maxRecDepth 20000 in
theorem b_X10_tryStarts_13 (x1 : Int)  {r : Option V × Mem × Mem} : ∀ a x, f_X10_tryStarts_13B x1 a = some x → K_X10_tryStarts_13 x1 r x → K_X10_tryStarts_13 x1 r (.inl a) := by
  intro a x h K
  obtain ⟨x2, σ⟩ := a
  have h : f_X10_tryStarts_13C x1 x2 σ = some x := h
  unfold f_X10_tryStarts_13C at h
  show Ev M_X10_tryStarts 218 218 r 13 218 rho σ [(2, (0 : Int)), (0, x1), (0, x2), (9, 0)] []
  refine ev_iload_n dX10_tryStarts_13 rfl ?_
  refine ev_bipush dX10_tryStarts_14 (by decide) (by decide) ?_
  refine ev_icmp_ge (tgt := 156) dX10_tryStarts_16 rfl h (fun cb h => ?_) (fun cb h => ?_)
  · obtain rfl := Option.some.inj h
    exact ev_sub (L2 := [(9, 0), (9, 0), (9, 0), (9, 0)]) K ⟨.inl rfl, .inl rfl, .inl rfl, .inl rfl, trivial⟩
  refine ev_aload_n dX10_tryStarts_19 rfl (by decide) ?_
  refine ev_getf (j := 12) (t := 2) (x := (179 : Int)) dX10_tryStarts_20 cf_X10 wf_X10_75 sp0 (by decide) (by decide) rfl (by decide) (rp0_12 _) ?_
  refine ev_iload_n dX10_tryStarts_23 rfl ?_
  refine ev_iconst dX10_tryStarts_24 (by decide) ?_
  refine ev_iastG dX10_tryStarts_25 sp179 (by decide) (by decide) h (fun σ3 h => ?_)
  refine ev_aload_n dX10_tryStarts_26 rfl (by decide) ?_
  refine ev_getf (j := 13) (t := 2) (x := (180 : Int)) dX10_tryStarts_27 cf_X10 wf_X10_78 sp0 (by decide) (by decide) rfl (by decide) (rp0_13 _) ?_
  refine ev_iload_n dX10_tryStarts_30 rfl ?_
  refine ev_iconst dX10_tryStarts_31 (by decide) ?_
  refine ev_iastG dX10_tryStarts_32 sp180 (by decide) (by decide) h (fun σ4 h => ?_)
  refine ev_aload_n dX10_tryStarts_33 rfl (by decide) ?_
  show Ev _ _ _ _ 34 _ _ _ _ _
  refine ev_getf (j := 1) (t := 2) (x := (10 : Int)) dX10_tryStarts_34 cf_X10 wf_X10_16 sp0 (by decide) (by decide) rfl (by decide) (rp0_1 _) ?_
  refine ev_getf (j := 1) (t := 2) (x := (12 : Int)) dX10_tryStarts_37 cf_X0 wf_X10_168 sp10 (by decide) (by decide) rfl (by decide) (rp10_1 _) ?_
  refine ev_iload_n dX10_tryStarts_40 rfl ?_
  refine ev_iload_n dX10_tryStarts_41 rfl ?_
  refine ev_iastG dX10_tryStarts_42 sp12 (by decide) (by decide) h (fun σ5 h => ?_)
  refine ev_iconst dX10_tryStarts_43 (by decide) ?_
  refine ev_istore_n dX10_tryStarts_44 rfl (by decide) ?_
  show Ev _ _ _ _ 45 _ _ _ [(2, (0 : Int)), (0, x1), (0, x2), (0, (0 : Int))] _
  exact ev_sub (L2 := [(2, (0 : Int)), (0, x1), (0, x2), (0, (0 : Int))]) (e_X10_tryStarts_45 σ5 x1 x2 (0 : Int) h K) ⟨.inr rfl, .inr rfl, .inr rfl, .inr rfl, trivial⟩
set_option maxHeartbeats 4000000 in
set_option maxRecDepth 20000 in
theorem e_X10_tryStarts_13 (σ : Mem) (x1 x2 : Int)  {q : Mem} (h : f_X10_tryStarts_13 σ x1 x2 = some q) : Ev M_X10_tryStarts 218 218 (none, rho, q) 13 218 rho σ [(2, (0 : Int)), (0, x1), (0, x2), (9, 0)] [] := by
  unfold f_X10_tryStarts_13 at h
  obtain ⟨e, hl, h⟩ := bind_of h
  refine loop_ev (K := K_X10_tryStarts_13 x1 (none, rho, q)) (b_X10_tryStarts_13 x1) FU (x2, σ) e hl ?_
  show Ev M_X10_tryStarts 218 218 _ 156 218 rho e [(9, 0), (9, 0), (9, 0), (9, 0)] []
  replace h : some e = some q := h
  obtain rfl := Option.some.inj h
  exact ev_vret dX10_tryStarts_156 rfl rfl
set_option maxHeartbeats 4000000 in
set_option maxRecDepth 20000 in
theorem c_X10_tryStarts {σ : Mem} {x1 : Int}  {q : Mem} (h : f_X10_tryStarts σ x1 = some q) : Ms yX10_tryStarts M_X10_tryStarts 218 218 [(2, (0 : Int)), (0, x1)] rho σ (none, rho, q) := by
  refine Ms.of 2 (by decide +kernel) rfl (fun z => absurd z (by decide)) (fun _ _ _ => trivial) rfl rfl ?_
  unfold f_X10_tryStarts at h
  show Ev M_X10_tryStarts 218 218 _ 0 218 rho σ [(2, (0 : Int)), (0, x1), (9, 0), (9, 0)] []
  refine ev_aload_n dX10_tryStarts_0 rfl (by decide) ?_
  refine ev_getf (j := 1) (t := 2) (x := (10 : Int)) dX10_tryStarts_1 cf_X10 wf_X10_16 sp0 (by decide) (by decide) rfl (by decide) (rp0_1 _) ?_
  refine ev_aload_n dX10_tryStarts_4 rfl (by decide) ?_
  refine ev_getf (j := 0) (t := 2) (x := (1 : Int)) dX10_tryStarts_5 cf_X10 wf_X10_12 sp0 (by decide) (by decide) rfl (by decide) (rp0_0 _) ?_
  obtain ⟨σ1, hc2, h⟩ := bind_of h
  refine ev_invV_n (k := (10 : Int)) (av := [(2, (1 : Int))]) (st := []) (τ := σ1) dX10_tryStarts_8 ml_X10_226 mv_X0_become (T := TX0) (ci := 0) rfl sp10 (by decide) (by decide) rfl ⟨Nat.le_of_ble_eq_true rfl, Nat.le_of_ble_eq_true rfl⟩ (Nat.le_of_ble_eq_true rfl) (c_X0_become hB10 hB1 hc2) ?_
  refine ev_iconst dX10_tryStarts_11 (by decide) ?_
  refine ev_istore_n dX10_tryStarts_12 rfl (by decide) ?_
  show Ev _ _ _ _ 13 _ _ _ [(2, (0 : Int)), (0, x1), (0, (0 : Int)), (9, 0)] _
  exact ev_sub (L2 := [(2, (0 : Int)), (0, x1), (0, (0 : Int)), (9, 0)]) (e_X10_tryStarts_13 σ1 x1 (0 : Int) h) ⟨.inr rfl, .inr rfl, .inr rfl, .inl rfl, trivial⟩
def K_X10_retime_28 (σ : Mem) (r : Option V × Mem × Mem) : (Int × Int) ⊕ ((Int)) → Prop := Sum.elim (fun a => Ev M_X10_retime 218 218 r 28 218 rho σ [(2, (0 : Int)), (9, 0), (0, a.1), (0, a.2), (9, 0), (9, 0)] []) (fun e => Ev M_X10_retime 218 218 r 111 218 rho σ [(9, 0), (9, 0), (0, e), (9, 0), (9, 0), (9, 0)] [])
set_option maxHeartbeats 4000000 in
set_option maxRecDepth 20000 in
theorem e_X10_retime_105 (σ : Mem) (x2 x3 : Int)  {q : ((Int × Int) ⊕ ((Int)))} (h : f_X10_retime_105 σ x2 x3 = some q) {r : Option V × Mem × Mem} (K : K_X10_retime_28 σ r q) : Ev M_X10_retime 218 218 r 105 218 rho σ [(2, (0 : Int)), (9, 0), (0, x2), (0, x3), (9, 0), (9, 0)] [] := by
  unfold f_X10_retime_105 at h
  refine ev_iincG dX10_retime_105 rfl h rfl (fun v7 h => ?_)
  show Ev _ _ _ _ 108 _ _ _ [(2, (0 : Int)), (9, 0), (0, x2), (0, v7), (9, 0), (9, 0)] _
  refine ev_goto (tgt := 28) dX10_retime_108 rfl ?_
  obtain rfl := Option.some.inj h
  exact ev_sub (L2 := [(2, (0 : Int)), (9, 0), (0, x2), (0, v7), (9, 0), (9, 0)]) K ⟨.inr rfl, .inl rfl, .inr rfl, .inr rfl, .inl rfl, .inl rfl, trivial⟩
set_option maxHeartbeats 4000000 in
set_option maxRecDepth 20000 in
theorem e_X10_retime_103 (σ : Mem) (x3 : Int)  {q : ((Int × Int) ⊕ ((Int)))} (h : f_X10_retime_103 σ x3 = some q) {r : Option V × Mem × Mem} (K : K_X10_retime_28 σ r q) : Ev M_X10_retime 218 218 r 103 218 rho σ [(2, (0 : Int)), (9, 0), (9, 0), (0, x3), (9, 0), (9, 0)] [] := by
  unfold f_X10_retime_103 at h
  refine ev_iload_n dX10_retime_103 rfl ?_
  refine ev_istore_n dX10_retime_104 rfl (by decide) ?_
  show Ev _ _ _ _ 105 _ _ _ [(2, (0 : Int)), (9, 0), (0, x3), (0, x3), (9, 0), (9, 0)] _
  exact ev_sub (L2 := [(2, (0 : Int)), (9, 0), (0, x3), (0, x3), (9, 0), (9, 0)]) (e_X10_retime_105 σ x3 x3 h K) ⟨.inr rfl, .inl rfl, .inr rfl, .inr rfl, .inl rfl, .inl rfl, trivial⟩
set_option maxHeartbeats 4000000 in
set_option maxRecDepth 20000 in
theorem e_X10_retime_76 (σ : Mem) (x2 x3 x4 s0 : Int)  {q : ((Int × Int) ⊕ ((Int)))} (h : f_X10_retime_76 σ x2 x3 x4 s0 = some q) {r : Option V × Mem × Mem} (K : K_X10_retime_28 σ r q) : Ev M_X10_retime 218 218 r 76 218 rho σ [(2, (0 : Int)), (9, 0), (0, x2), (0, x3), (0, x4), (9, 0)] [(0, s0)] := by
  unfold f_X10_retime_76 at h
  refine ev_istore dX10_retime_76 rfl (by decide) ?_
  show Ev _ _ _ _ 78 _ _ _ [(2, (0 : Int)), (9, 0), (0, x2), (0, x3), (0, x4), (0, s0)] _
  refine ev_iload dX10_retime_78 rfl ?_
  refine ev_if_ne (tgt := 103) dX10_retime_80 rfl h (fun cb h => ?_) (fun cb h => ?_)
  · exact ev_sub (L2 := [(2, (0 : Int)), (9, 0), (9, 0), (0, x3), (9, 0), (9, 0)]) (e_X10_retime_103 σ x3 h K) ⟨.inr rfl, .inl rfl, .inl rfl, .inr rfl, .inl rfl, .inl rfl, trivial⟩
  refine ev_iload dX10_retime_83 rfl ?_
  refine ev_if_eq (tgt := 105) dX10_retime_85 rfl h (fun cb h => ?_) (fun cb h => ?_)
  · exact ev_sub (L2 := [(2, (0 : Int)), (9, 0), (0, x2), (0, x3), (9, 0), (9, 0)]) (e_X10_retime_105 σ x2 x3 h K) ⟨.inr rfl, .inl rfl, .inr rfl, .inr rfl, .inl rfl, .inl rfl, trivial⟩
  refine ev_aload_n dX10_retime_88 rfl (by decide) ?_
  refine ev_getf (j := 13) (t := 2) (x := (180 : Int)) dX10_retime_89 cf_X10 wf_X10_78 sp0 (by decide) (by decide) rfl (by decide) (rp0_13 _) ?_
  refine ev_iload_n dX10_retime_92 rfl ?_
  refine ev_iald dX10_retime_93 sp180 (by decide) (by decide) h (fun h => ?_)
  refine ev_aload_n dX10_retime_94 rfl (by decide) ?_
  refine ev_getf (j := 13) (t := 2) (x := (180 : Int)) dX10_retime_95 cf_X10 wf_X10_78 sp0 (by decide) (by decide) rfl (by decide) (rp0_13 _) ?_
  refine ev_iload_n dX10_retime_98 rfl ?_
  refine ev_iald dX10_retime_99 sp180 (by decide) (by decide) h (fun h => ?_)
  refine ev_icmp_ge (tgt := 105) dX10_retime_100 rfl h (fun cb h => ?_) (fun cb h => ?_)
  · exact ev_sub (L2 := [(2, (0 : Int)), (9, 0), (0, x2), (0, x3), (9, 0), (9, 0)]) (e_X10_retime_105 σ x2 x3 h K) ⟨.inr rfl, .inl rfl, .inr rfl, .inr rfl, .inl rfl, .inl rfl, trivial⟩
  exact ev_sub (L2 := [(2, (0 : Int)), (9, 0), (9, 0), (0, x3), (9, 0), (9, 0)]) (e_X10_retime_103 σ x3 h K) ⟨.inr rfl, .inl rfl, .inl rfl, .inr rfl, .inl rfl, .inl rfl, trivial⟩
set_option maxHeartbeats 4000000 in
set_option maxRecDepth 20000 in
theorem e_X10_retime_54 (σ : Mem) (x2 x3 s0 : Int)  {q : ((Int × Int) ⊕ ((Int)))} (h : f_X10_retime_54 σ x2 x3 s0 = some q) {r : Option V × Mem × Mem} (K : K_X10_retime_28 σ r q) : Ev M_X10_retime 218 218 r 54 218 rho σ [(2, (0 : Int)), (9, 0), (0, x2), (0, x3), (9, 0), (9, 0)] [(0, s0)] := by
  unfold f_X10_retime_54 at h
  refine ev_istore dX10_retime_54 rfl (by decide) ?_
  show Ev _ _ _ _ 56 _ _ _ [(2, (0 : Int)), (9, 0), (0, x2), (0, x3), (0, s0), (9, 0)] _
  refine ev_aload_n dX10_retime_56 rfl (by decide) ?_
  refine ev_getf (j := 12) (t := 2) (x := (179 : Int)) dX10_retime_57 cf_X10 wf_X10_75 sp0 (by decide) (by decide) rfl (by decide) (rp0_12 _) ?_
  refine ev_iload_n dX10_retime_60 rfl ?_
  refine ev_iald dX10_retime_61 sp179 (by decide) (by decide) h (fun h => ?_)
  refine ev_aload_n dX10_retime_62 rfl (by decide) ?_
  refine ev_getf (j := 12) (t := 2) (x := (179 : Int)) dX10_retime_63 cf_X10 wf_X10_75 sp0 (by decide) (by decide) rfl (by decide) (rp0_12 _) ?_
  refine ev_iload_n dX10_retime_66 rfl ?_
  refine ev_iald dX10_retime_67 sp179 (by decide) (by decide) h (fun h => ?_)
  refine ev_icmp_ne (tgt := 75) dX10_retime_68 rfl h (fun cb h => ?_) (fun cb h => ?_)
  · refine ev_iconst dX10_retime_75 (by decide) ?_
    exact ev_sub (L2 := [(2, (0 : Int)), (9, 0), (0, x2), (0, x3), (0, s0), (9, 0)]) (e_X10_retime_76 σ x2 x3 s0 (0 : Int) h K) ⟨.inr rfl, .inl rfl, .inr rfl, .inr rfl, .inr rfl, .inl rfl, trivial⟩
  refine ev_iconst dX10_retime_71 (by decide) ?_
  refine ev_goto (tgt := 76) dX10_retime_72 rfl ?_
  exact ev_sub (L2 := [(2, (0 : Int)), (9, 0), (0, x2), (0, x3), (0, s0), (9, 0)]) (e_X10_retime_76 σ x2 x3 s0 (1 : Int) h K) ⟨.inr rfl, .inl rfl, .inr rfl, .inr rfl, .inr rfl, .inl rfl, trivial⟩
set_option maxHeartbeats 4000000 in
set_option maxRecDepth 20000 in
theorem b_X10_retime_28 (σ : Mem)  {r : Option V × Mem × Mem} : ∀ a x, f_X10_retime_28B σ a = some x → K_X10_retime_28 σ r x → K_X10_retime_28 σ r (.inl a) := by
  intro a x h K
  obtain ⟨x2, x3⟩ := a
  have h : f_X10_retime_28C σ x2 x3 = some x := h
  unfold f_X10_retime_28C at h
  show Ev M_X10_retime 218 218 r 28 218 rho σ [(2, (0 : Int)), (9, 0), (0, x2), (0, x3), (9, 0), (9, 0)] []
  refine ev_iload_n dX10_retime_28 rfl ?_
  refine ev_bipush dX10_retime_29 (by decide) (by decide) ?_
  refine ev_icmp_ge (tgt := 111) dX10_retime_31 rfl h (fun cb h => ?_) (fun cb h => ?_)
  · obtain rfl := Option.some.inj h
    exact ev_sub (L2 := [(9, 0), (9, 0), (0, x2), (9, 0), (9, 0), (9, 0)]) K ⟨.inl rfl, .inl rfl, .inr rfl, .inl rfl, .inl rfl, .inl rfl, trivial⟩
  refine ev_aload_n dX10_retime_34 rfl (by decide) ?_
  refine ev_getf (j := 12) (t := 2) (x := (179 : Int)) dX10_retime_35 cf_X10 wf_X10_75 sp0 (by decide) (by decide) rfl (by decide) (rp0_12 _) ?_
  refine ev_iload_n dX10_retime_38 rfl ?_
  refine ev_iald dX10_retime_39 sp179 (by decide) (by decide) h (fun h => ?_)
  refine ev_aload_n dX10_retime_40 rfl (by decide) ?_
  refine ev_getf (j := 12) (t := 2) (x := (179 : Int)) dX10_retime_41 cf_X10 wf_X10_75 sp0 (by decide) (by decide) rfl (by decide) (rp0_12 _) ?_
  refine ev_iload_n dX10_retime_44 rfl ?_
  refine ev_iald dX10_retime_45 sp179 (by decide) (by decide) h (fun h => ?_)
  refine ev_icmp_ge (tgt := 53) dX10_retime_46 rfl h (fun cb h => ?_) (fun cb h => ?_)
  · refine ev_iconst dX10_retime_53 (by decide) ?_
    exact ev_sub (L2 := [(2, (0 : Int)), (9, 0), (0, x2), (0, x3), (9, 0), (9, 0)]) (e_X10_retime_54 σ x2 x3 (0 : Int) h K) ⟨.inr rfl, .inl rfl, .inr rfl, .inr rfl, .inl rfl, .inl rfl, trivial⟩
  refine ev_iconst dX10_retime_49 (by decide) ?_
  refine ev_goto (tgt := 54) dX10_retime_50 rfl ?_
  exact ev_sub (L2 := [(2, (0 : Int)), (9, 0), (0, x2), (0, x3), (9, 0), (9, 0)]) (e_X10_retime_54 σ x2 x3 (1 : Int) h K) ⟨.inr rfl, .inl rfl, .inr rfl, .inr rfl, .inl rfl, .inl rfl, trivial⟩
set_option maxHeartbeats 4000000 in
set_option maxRecDepth 20000 in
theorem e_X10_retime_28 (σ : Mem) (x2 x3 : Int)  {q : (Int × Mem)} (h : f_X10_retime_28 σ x2 x3 = some q) : Ev M_X10_retime 218 218 (some (0, q.1), rho, q.2) 28 218 rho σ [(2, (0 : Int)), (9, 0), (0, x2), (0, x3), (9, 0), (9, 0)] [] := by
  unfold f_X10_retime_28 at h
  obtain ⟨e, hl, h⟩ := bind_of h
  refine loop_ev (K := K_X10_retime_28 σ (some (0, q.1), rho, q.2)) (b_X10_retime_28 σ) FU (x2, x3) e hl ?_
  show Ev M_X10_retime 218 218 _ 111 218 rho σ [(9, 0), (9, 0), (0, e), (9, 0), (9, 0), (9, 0)] []
  replace h : some (e, σ) = some q := h
  refine ev_iload_n dX10_retime_111 rfl ?_
  obtain rfl := Option.some.inj h
  dsimp only
  exact ev_iret dX10_retime_112 rfl rfl
set_option maxHeartbeats 4000000 in
set_option maxRecDepth 20000 in
theorem c_X10_retime {σ : Mem} {x1 : Int}  {q : (Int × Mem)} (h : f_X10_retime σ x1 = some q) : Ms yX10_retime M_X10_retime 218 218 [(2, (0 : Int)), (0, x1)] rho σ (some (0, q.1), rho, q.2) := by
  refine Ms.of 4 (by decide +kernel) rfl (fun z => absurd z (by decide)) (fun _ _ _ => trivial) rfl rfl ?_
  unfold f_X10_retime at h
  show Ev M_X10_retime 218 218 _ 0 218 rho σ [(2, (0 : Int)), (0, x1), (9, 0), (9, 0), (9, 0), (9, 0)] []
  refine ev_aload_n dX10_retime_0 rfl (by decide) ?_
  refine ev_getf (j := 0) (t := 2) (x := (1 : Int)) dX10_retime_1 cf_X10 wf_X10_12 sp0 (by decide) (by decide) rfl (by decide) (rp0_0 _) ?_
  refine ev_iload_n dX10_retime_4 rfl ?_
  refine ev_i2lk dX10_retime_5 ?_
  obtain ⟨v1, hc2, h⟩ := bind_of h
  refine ev_invV_v (k := (1 : Int)) (av := [(1, x1)]) (st := []) (v := (0, v1)) (τ := σ) dX10_retime_6 ml_X10_164 mv_X0_hasPaper (T := TX0) (ci := 0) rfl sp1 (by decide) (by decide) rfl ⟨Nat.le_of_ble_eq_true rfl, Nat.le_of_ble_eq_true rfl⟩ (Nat.le_of_ble_eq_true rfl) (c_X0_hasPaper hB1 hc2) ?_
  refine ev_if_ne (tgt := 19) dX10_retime_9 rfl h (fun cb h => ?_) (fun cb h => ?_)
  · refine ev_aload_n dX10_retime_19 rfl (by decide) ?_
    refine ev_iload_n dX10_retime_20 rfl ?_
    obtain ⟨σ3, hc4, h⟩ := bind_of h
    refine ev_invV_n (k := (0 : Int)) (av := [(0, x1)]) (st := []) (τ := σ3) dX10_retime_21 ml_X10_381 mv_X10_tryStarts (T := TX10) (ci := 9) rfl sp0 (by decide) (by decide) rfl ⟨Nat.le_of_ble_eq_true rfl, Nat.le_of_ble_eq_true rfl⟩ (Nat.le_of_ble_eq_true rfl) (c_X10_tryStarts hc4) ?_
    refine ev_iconst dX10_retime_24 (by decide) ?_
    refine ev_istore_n dX10_retime_25 rfl (by decide) ?_
    show Ev _ _ _ _ 26 _ _ _ [(2, (0 : Int)), (0, x1), (0, (0 : Int)), (9, 0), (9, 0), (9, 0)] _
    refine ev_iconst dX10_retime_26 (by decide) ?_
    refine ev_istore_n dX10_retime_27 rfl (by decide) ?_
    show Ev _ _ _ _ 28 _ _ _ [(2, (0 : Int)), (0, x1), (0, (0 : Int)), (0, (1 : Int)), (9, 0), (9, 0)] _
    exact ev_sub (L2 := [(2, (0 : Int)), (9, 0), (0, (0 : Int)), (0, (1 : Int)), (9, 0), (9, 0)]) (e_X10_retime_28 σ3 (0 : Int) (1 : Int) h) ⟨.inr rfl, .inl rfl, .inr rfl, .inr rfl, .inl rfl, .inl rfl, trivial⟩
  refine ev_aload_n dX10_retime_12 rfl (by decide) ?_
  refine ev_bipush dX10_retime_13 (by decide) (by decide) ?_
  obtain ⟨v5, hc6, h⟩ := bind_of h
  refine ev_invV_v (k := (0 : Int)) (av := [(0, (-52 : Int))]) (st := []) (v := (0, v5.1)) (τ := v5.2) dX10_retime_15 ml_X10_88 mv_X10_refuse (T := TX10) (ci := 9) rfl sp0 (by decide) (by decide) rfl ⟨Nat.le_of_ble_eq_true rfl, Nat.le_of_ble_eq_true rfl⟩ (Nat.le_of_ble_eq_true rfl) (c_X10_refuse hc6) ?_
  obtain rfl := Option.some.inj h
  dsimp only
  exact ev_iret dX10_retime_18 rfl rfl
def K_X10_hoursFor_32 (x1 : Int) (r : Option V × Mem × Mem) : (Int × Mem) ⊕ ((Int × Mem) ⊕ (Mem)) → Prop := Sum.elim (fun a => Ev M_X10_hoursFor 218 218 r 32 218 rho a.2 [(2, (0 : Int)), (0, x1), (0, a.1)] []) (Sum.elim (fun e => Ev M_X10_hoursFor 218 218 r 72 218 rho e.2 [(9, 0), (9, 0), (0, e.1)] []) (fun e => Ev M_X10_hoursFor 218 218 r 80 218 rho e [(9, 0), (9, 0), (9, 0)] []))
set_option maxHeartbeats 4000000 in
set_option maxRecDepth 20000 in
theorem b_X10_hoursFor_32 (x1 : Int)  {r : Option V × Mem × Mem} : ∀ a x, f_X10_hoursFor_32B x1 a = some x → K_X10_hoursFor_32 x1 r x → K_X10_hoursFor_32 x1 r (.inl a) := by
  intro a x h K
  obtain ⟨x2, σ⟩ := a
  have h : f_X10_hoursFor_32C x1 x2 σ = some x := h
  unfold f_X10_hoursFor_32C at h
  show Ev M_X10_hoursFor 218 218 r 32 218 rho σ [(2, (0 : Int)), (0, x1), (0, x2)] []
  refine ev_iload_n dX10_hoursFor_32 rfl ?_
  refine ev_bipush dX10_hoursFor_33 (by decide) (by decide) ?_
  refine ev_icmp_gt (tgt := 80) dX10_hoursFor_35 rfl h (fun cb h => ?_) (fun cb h => ?_)
  · obtain rfl := Option.some.inj h
    exact ev_sub (L2 := [(9, 0), (9, 0), (9, 0)]) K ⟨.inl rfl, .inl rfl, .inl rfl, trivial⟩
  refine ev_aload_n dX10_hoursFor_38 rfl (by decide) ?_
  refine ev_getf (j := 1) (t := 2) (x := (10 : Int)) dX10_hoursFor_39 cf_X10 wf_X10_16 sp0 (by decide) (by decide) rfl (by decide) (rp0_1 _) ?_
  refine ev_iload_n dX10_hoursFor_42 rfl ?_
  refine ev_putfG (j := 11) (t := 0) dX10_hoursFor_43 cf_X0 wf_X10_209 sp10 (by decide) (by decide) rfl (by decide) (by decide) rfl (fun z => absurd z (by decide +kernel)) h (fun σ7 h => ?_)
  refine ev_aload_n dX10_hoursFor_46 rfl (by decide) ?_
  refine ev_getf (j := 7) (t := 2) (x := (35 : Int)) dX10_hoursFor_47 cf_X10 wf_X10_43 sp0 (by decide) (by decide) rfl (by decide) (rp0_7 _) ?_
  refine ev_aload_n dX10_hoursFor_50 rfl (by decide) ?_
  refine ev_getf (j := 1) (t := 2) (x := (10 : Int)) dX10_hoursFor_51 cf_X10 wf_X10_16 sp0 (by decide) (by decide) rfl (by decide) (rp0_1 _) ?_
  refine ev_iload_n dX10_hoursFor_54 rfl ?_
  refine ev_aload_n dX10_hoursFor_55 rfl (by decide) ?_
  refine ev_getf (j := 9) (t := 2) (x := (154 : Int)) dX10_hoursFor_56 cf_X10 wf_X10_57 sp0 (by decide) (by decide) rfl (by decide) (rp0_9 _) ?_
  show Ev _ _ _ _ 59 _ _ _ _ _
  obtain ⟨σ8, hc9, h⟩ := bind_of h
  refine ev_invV_n (k := (35 : Int)) (av := [(2, (10 : Int)), (0, x1), (2, (154 : Int))]) (st := []) (τ := σ8) dX10_hoursFor_59 ml_X10_374 mv_X4_planWeek (T := TX4) (ci := 3) rfl sp35 (by decide) (by decide) rfl ⟨Nat.le_of_ble_eq_true rfl, Nat.le_of_ble_eq_true rfl⟩ (Nat.le_of_ble_eq_true rfl) (c_X4_planWeek hB10 hW154 hc9) ?_
  refine ev_aload_n dX10_hoursFor_62 rfl (by decide) ?_
  refine ev_getf (j := 9) (t := 2) (x := (154 : Int)) dX10_hoursFor_63 cf_X10 wf_X10_57 sp0 (by decide) (by decide) rfl (by decide) (rp0_9 _) ?_
  obtain ⟨v10, hc11, h⟩ := bind_of h
  refine ev_invV_v (k := (154 : Int)) (av := []) (st := []) (v := (0, v10)) (τ := σ8) dX10_hoursFor_66 ml_X10_247 mv_X8_cants (T := TX8) (ci := 7) rfl sp154 (by decide) (by decide) rfl ⟨Nat.le_of_ble_eq_true rfl, Nat.le_of_ble_eq_true rfl⟩ (Nat.le_of_ble_eq_true rfl) (c_X8_cants hW154 hc11) ?_
  refine ev_if_ne (tgt := 74) dX10_hoursFor_69 rfl h (fun cb h => ?_) (fun cb h => ?_)
  · refine ev_iincG dX10_hoursFor_74 rfl h rfl (fun v12 h => ?_)
    show Ev _ _ _ _ 77 _ _ _ [(2, (0 : Int)), (0, x1), (0, v12)] _
    refine ev_goto (tgt := 32) dX10_hoursFor_77 rfl ?_
    obtain rfl := Option.some.inj h
    exact ev_sub (L2 := [(2, (0 : Int)), (0, x1), (0, v12)]) K ⟨.inr rfl, .inr rfl, .inr rfl, trivial⟩
  obtain rfl := Option.some.inj h
  exact ev_sub (L2 := [(9, 0), (9, 0), (0, x2)]) K ⟨.inl rfl, .inl rfl, .inr rfl, trivial⟩
set_option maxHeartbeats 4000000 in
set_option maxRecDepth 20000 in
theorem e_X10_hoursFor_32 (σ : Mem) (x1 x2 : Int)  {q : (Int × Mem)} (h : f_X10_hoursFor_32 σ x1 x2 = some q) : Ev M_X10_hoursFor 218 218 (some (0, q.1), rho, q.2) 32 218 rho σ [(2, (0 : Int)), (0, x1), (0, x2)] [] := by
  unfold f_X10_hoursFor_32 at h
  obtain ⟨e, hl, h⟩ := bind_of h
  refine loop_ev (K := K_X10_hoursFor_32 x1 (some (0, q.1), rho, q.2)) (b_X10_hoursFor_32 x1) FU (x2, σ) e hl ?_
  rcases e with e | e
  · show Ev M_X10_hoursFor 218 218 _ 72 218 rho e.2 [(9, 0), (9, 0), (0, e.1)] []
    replace h : some (e.1, e.2) = some q := h
    refine ev_iload_n dX10_hoursFor_72 rfl ?_
    obtain rfl := Option.some.inj h
    dsimp only
    exact ev_iret dX10_hoursFor_73 rfl rfl
  · show Ev M_X10_hoursFor 218 218 _ 80 218 rho e [(9, 0), (9, 0), (9, 0)] []
    replace h : some ((-1 : Int), e) = some q := h
    refine ev_iconst dX10_hoursFor_80 (by decide) ?_
    obtain rfl := Option.some.inj h
    dsimp only
    exact ev_iret dX10_hoursFor_81 rfl rfl
set_option maxHeartbeats 4000000 in
set_option maxRecDepth 20000 in
theorem c_X10_hoursFor {σ : Mem} {x1 : Int}  {q : (Int × Mem)} (h : f_X10_hoursFor σ x1 = some q) : Ms yX10_hoursFor M_X10_hoursFor 218 218 [(2, (0 : Int)), (0, x1)] rho σ (some (0, q.1), rho, q.2) := by
  refine Ms.of 1 (by decide +kernel) rfl (fun z => absurd z (by decide)) (fun _ _ _ => trivial) rfl rfl ?_
  unfold f_X10_hoursFor at h
  show Ev M_X10_hoursFor 218 218 _ 0 218 rho σ [(2, (0 : Int)), (0, x1), (9, 0)] []
  refine ev_aload_n dX10_hoursFor_0 rfl (by decide) ?_
  refine ev_getf (j := 0) (t := 2) (x := (1 : Int)) dX10_hoursFor_1 cf_X10 wf_X10_12 sp0 (by decide) (by decide) rfl (by decide) (rp0_0 _) ?_
  refine ev_iload_n dX10_hoursFor_4 rfl ?_
  obtain ⟨v1, hc2, h⟩ := bind_of h
  refine ev_invV_v (k := (1 : Int)) (av := [(0, x1)]) (st := []) (v := (0, v1)) (τ := σ) dX10_hoursFor_5 ml_X10_122 mv_X0_hasCand (T := TX0) (ci := 0) rfl sp1 (by decide) (by decide) rfl ⟨Nat.le_of_ble_eq_true rfl, Nat.le_of_ble_eq_true rfl⟩ (Nat.le_of_ble_eq_true rfl) (c_X0_hasCand hB1 hc2) ?_
  refine ev_if_ne (tgt := 18) dX10_hoursFor_8 rfl h (fun cb h => ?_) (fun cb h => ?_)
  · refine ev_aload_n dX10_hoursFor_18 rfl (by decide) ?_
    refine ev_getf (j := 1) (t := 2) (x := (10 : Int)) dX10_hoursFor_19 cf_X10 wf_X10_16 sp0 (by decide) (by decide) rfl (by decide) (rp0_1 _) ?_
    refine ev_aload_n dX10_hoursFor_22 rfl (by decide) ?_
    refine ev_getf (j := 0) (t := 2) (x := (1 : Int)) dX10_hoursFor_23 cf_X10 wf_X10_12 sp0 (by decide) (by decide) rfl (by decide) (rp0_0 _) ?_
    obtain ⟨σ3, hc4, h⟩ := bind_of h
    refine ev_invV_n (k := (10 : Int)) (av := [(2, (1 : Int))]) (st := []) (τ := σ3) dX10_hoursFor_26 ml_X10_226 mv_X0_become (T := TX0) (ci := 0) rfl sp10 (by decide) (by decide) rfl ⟨Nat.le_of_ble_eq_true rfl, Nat.le_of_ble_eq_true rfl⟩ (Nat.le_of_ble_eq_true rfl) (c_X0_become hB10 hB1 hc4) ?_
    refine ev_bipush dX10_hoursFor_29 (by decide) (by decide) ?_
    refine ev_istore_n dX10_hoursFor_31 rfl (by decide) ?_
    show Ev _ _ _ _ 32 _ _ _ [(2, (0 : Int)), (0, x1), (0, (8 : Int))] _
    exact ev_sub (L2 := [(2, (0 : Int)), (0, x1), (0, (8 : Int))]) (e_X10_hoursFor_32 σ3 x1 (8 : Int) h) ⟨.inr rfl, .inr rfl, .inr rfl, trivial⟩
  refine ev_aload_n dX10_hoursFor_11 rfl (by decide) ?_
  refine ev_bipush dX10_hoursFor_12 (by decide) (by decide) ?_
  obtain ⟨v5, hc6, h⟩ := bind_of h
  refine ev_invV_v (k := (0 : Int)) (av := [(0, (-52 : Int))]) (st := []) (v := (0, v5.1)) (τ := v5.2) dX10_hoursFor_14 ml_X10_88 mv_X10_refuse (T := TX10) (ci := 9) rfl sp0 (by decide) (by decide) rfl ⟨Nat.le_of_ble_eq_true rfl, Nat.le_of_ble_eq_true rfl⟩ (Nat.le_of_ble_eq_true rfl) (c_X10_refuse hc6) ?_
  obtain rfl := Option.some.inj h
  dsimp only
  exact ev_iret dX10_hoursFor_17 rfl rfl
set_option maxHeartbeats 4000000 in
set_option maxRecDepth 20000 in
theorem c_X10_isTold {σ : Mem} {x0 : Int}  {q : Int} (h : f_X10_isTold σ x0 = some q) : Ms yX10_isTold M_X10_isTold 218 218 [(0, x0)] rho σ (some (0, q), rho, σ) := by
  refine Ms.of 0 (by decide +kernel) rfl (fun z => absurd z (by decide)) (fun _ _ _ => trivial) rfl rfl ?_
  unfold f_X10_isTold at h
  show Ev M_X10_isTold 218 218 _ 0 218 rho σ [(0, x0)] []
  refine ev_iload_n dX10_isTold_0 rfl ?_
  refine ev_if_lt (tgt := 14) dX10_isTold_1 rfl h (fun cb h => ?_) (fun cb h => ?_)
  · refine ev_iconst dX10_isTold_14 (by decide) ?_
    obtain rfl := Option.some.inj h
    exact ev_zret dX10_isTold_15 rfl (chk_pos (.inl rfl))
  refine ev_iload_n dX10_isTold_4 rfl ?_
  refine ev_bipush dX10_isTold_5 (by decide) (by decide) ?_
  refine ev_icmp_gt (tgt := 14) dX10_isTold_7 rfl h (fun cb h => ?_) (fun cb h => ?_)
  · refine ev_iconst dX10_isTold_14 (by decide) ?_
    obtain rfl := Option.some.inj h
    exact ev_zret dX10_isTold_15 rfl (chk_pos (.inl rfl))
  refine ev_iconst dX10_isTold_10 (by decide) ?_
  refine ev_goto (tgt := 15) dX10_isTold_11 rfl ?_
  obtain rfl := Option.some.inj h
  exact ev_zret dX10_isTold_15 rfl (chk_pos (.inr rfl))
def K_X10_hasToldTimes_3 (σ : Mem) (x1 x2 x3 x4 : Int) (r : Option V × Mem × Mem) : (Int) ⊕ ((Unit) ⊕ (Unit) ⊕ (Unit)) → Prop := Sum.elim (fun a => Ev M_X10_hasToldTimes 218 218 r 3 218 rho σ [(2, (0 : Int)), (0, x1), (0, x2), (0, x3), (0, x4), (0, a), (9, 0), (9, 0), (9, 0)] []) (Sum.elim (fun e => Ev M_X10_hasToldTimes 218 218 r 36 218 rho σ [(9, 0), (9, 0), (9, 0), (9, 0), (9, 0), (9, 0), (9, 0), (9, 0), (9, 0)] []) (Sum.elim (fun e => Ev M_X10_hasToldTimes 218 218 r 77 218 rho σ [(9, 0), (9, 0), (9, 0), (9, 0), (9, 0), (9, 0), (9, 0), (9, 0), (9, 0)] []) (fun e => Ev M_X10_hasToldTimes 218 218 r 85 218 rho σ [(9, 0), (9, 0), (9, 0), (9, 0), (9, 0), (9, 0), (9, 0), (9, 0), (9, 0)] [])))
set_option maxHeartbeats 4000000 in
set_option maxRecDepth 20000 in
theorem b_X10_hasToldTimes_3 (σ : Mem) (x1 x2 x3 x4 : Int)  {r : Option V × Mem × Mem} : ∀ a x, f_X10_hasToldTimes_3B σ x1 x2 x3 x4 a = some x → K_X10_hasToldTimes_3 σ x1 x2 x3 x4 r x → K_X10_hasToldTimes_3 σ x1 x2 x3 x4 r (.inl a) := by
  intro a x h K
  have ⟨x5, ea⟩ : ∃ z, z = a := ⟨_, rfl⟩
  subst ea
  have h : f_X10_hasToldTimes_3C σ x1 x2 x3 x4 x5 = some x := h
  unfold f_X10_hasToldTimes_3C at h
  show Ev M_X10_hasToldTimes 218 218 r 3 218 rho σ [(2, (0 : Int)), (0, x1), (0, x2), (0, x3), (0, x4), (0, x5), (9, 0), (9, 0), (9, 0)] []
  refine ev_iload dX10_hasToldTimes_3 rfl ?_
  refine ev_iload dX10_hasToldTimes_5 rfl ?_
  refine ev_icmp_ge (tgt := 85) dX10_hasToldTimes_7 rfl h (fun cb h => ?_) (fun cb h => ?_)
  · obtain rfl := Option.some.inj h
    exact ev_sub (L2 := [(9, 0), (9, 0), (9, 0), (9, 0), (9, 0), (9, 0), (9, 0), (9, 0), (9, 0)]) K ⟨.inl rfl, .inl rfl, .inl rfl, .inl rfl, .inl rfl, .inl rfl, .inl rfl, .inl rfl, .inl rfl, trivial⟩
  refine ev_aload_n dX10_hasToldTimes_10 rfl (by decide) ?_
  refine ev_getf (j := 5) (t := 2) (x := (30 : Int)) dX10_hasToldTimes_11 cf_X10 wf_X10_32 sp0 (by decide) (by decide) rfl (by decide) (rp0_5 _) ?_
  refine ev_iload_n dX10_hasToldTimes_14 rfl ?_
  refine ev_iconst dX10_hasToldTimes_15 (by decide) ?_
  refine ev_iload dX10_hasToldTimes_16 rfl ?_
  refine ev_imul dX10_hasToldTimes_18 ?_
  obtain ⟨v1, hc2, h⟩ := bind_of h
  refine ev_invV_v (k := (30 : Int)) (av := [(0, x3), (0, (jmul (2 : Int) x5))]) (st := []) (v := (1, v1)) (τ := σ) dX10_hasToldTimes_19 ml_X10_118 mv_X6_elementAt (T := TX6) (ci := 5) rfl sp30 (by decide) (by decide) rfl ⟨Nat.le_of_ble_eq_true rfl, Nat.le_of_ble_eq_true rfl⟩ (Nat.le_of_ble_eq_true rfl) (c_X6_elementAt hc2) ?_
  refine ev_lstore dX10_hasToldTimes_22 rfl (by decide) ?_
  show Ev _ _ _ _ 24 _ _ _ [(2, (0 : Int)), (0, x1), (0, x2), (0, x3), (0, x4), (0, x5), (1, v1), (9, 0), (9, 0)] _
  refine ev_aload_n dX10_hasToldTimes_24 rfl (by decide) ?_
  refine ev_getf (j := 0) (t := 2) (x := (1 : Int)) dX10_hasToldTimes_25 cf_X10 wf_X10_12 sp0 (by decide) (by decide) rfl (by decide) (rp0_0 _) ?_
  refine ev_lload dX10_hasToldTimes_28 rfl ?_
  show Ev _ _ _ _ 30 _ _ _ _ _
  obtain ⟨v3, hc4, h⟩ := bind_of h
  refine ev_invV_v (k := (1 : Int)) (av := [(1, v1)]) (st := []) (v := (0, v3)) (τ := σ) dX10_hasToldTimes_30 ml_X10_164 mv_X0_hasPaper (T := TX0) (ci := 0) rfl sp1 (by decide) (by decide) rfl ⟨Nat.le_of_ble_eq_true rfl, Nat.le_of_ble_eq_true rfl⟩ (Nat.le_of_ble_eq_true rfl) (c_X0_hasPaper hB1 hc4) ?_
  refine ev_if_ne (tgt := 38) dX10_hasToldTimes_33 rfl h (fun cb h => ?_) (fun cb h => ?_)
  · refine ev_iload_n dX10_hasToldTimes_38 rfl ?_
    refine ev_iload_n dX10_hasToldTimes_39 rfl ?_
    refine ev_aload_n dX10_hasToldTimes_40 rfl (by decide) ?_
    refine ev_getf (j := 0) (t := 2) (x := (1 : Int)) dX10_hasToldTimes_41 cf_X10 wf_X10_12 sp0 (by decide) (by decide) rfl (by decide) (rp0_0 _) ?_
    refine ev_getf (j := 2) (t := 2) (x := (4 : Int)) dX10_hasToldTimes_44 cf_X0 wf_X10_253 sp1 (by decide) (by decide) rfl (by decide) (rp1_2 _) ?_
    refine ev_lload dX10_hasToldTimes_47 rfl ?_
    refine ev_l2i dX10_hasToldTimes_49 ?_
    refine ev_iald dX10_hasToldTimes_50 sp4 (by decide) (by decide) h (fun h => ?_)
    obtain ⟨v5, hc6, h⟩ := bind_of h
    refine ev_invS_v (av := [(0, x1), (0, x2), (0, (σ (4 : Int) (lj v1)))]) (st := []) (v := (0, v5)) (τ := σ) dX10_hasToldTimes_51 ml_X10_432 mt_X2_timeOf rfl ⟨Nat.le_of_ble_eq_true rfl, Nat.le_of_ble_eq_true rfl⟩ (Nat.le_of_ble_eq_true rfl) (c_X2_timeOf hc6) ?_
    refine ev_istore dX10_hasToldTimes_54 rfl (by decide) ?_
    show Ev _ _ _ _ 56 _ _ _ [(2, (0 : Int)), (0, x1), (0, x2), (0, x3), (0, x4), (0, x5), (1, v1), (9, 0), (0, v5)] _
    refine ev_aload_n dX10_hasToldTimes_56 rfl (by decide) ?_
    show Ev _ _ _ _ 57 _ _ _ _ _
    refine ev_getf (j := 5) (t := 2) (x := (30 : Int)) dX10_hasToldTimes_57 cf_X10 wf_X10_32 sp0 (by decide) (by decide) rfl (by decide) (rp0_5 _) ?_
    refine ev_iload_n dX10_hasToldTimes_60 rfl ?_
    refine ev_iconst dX10_hasToldTimes_61 (by decide) ?_
    refine ev_iload dX10_hasToldTimes_62 rfl ?_
    refine ev_imul dX10_hasToldTimes_64 ?_
    refine ev_iconst dX10_hasToldTimes_65 (by decide) ?_
    refine ev_iadd dX10_hasToldTimes_66 ?_
    obtain ⟨v7, hc8, h⟩ := bind_of h
    refine ev_invV_v (k := (30 : Int)) (av := [(0, x3), (0, (jadd (jmul (2 : Int) x5) (1 : Int)))]) (st := []) (v := (1, v7)) (τ := σ) dX10_hasToldTimes_67 ml_X10_118 mv_X6_elementAt (T := TX6) (ci := 5) rfl sp30 (by decide) (by decide) rfl ⟨Nat.le_of_ble_eq_true rfl, Nat.le_of_ble_eq_true rfl⟩ (Nat.le_of_ble_eq_true rfl) (c_X6_elementAt hc8) ?_
    refine ev_iload dX10_hasToldTimes_70 rfl ?_
    refine ev_i2lk dX10_hasToldTimes_72 ?_
    refine ev_lc_eq (tgt := 79) dX10_hasToldTimes_73 dX10_hasToldTimes_74 rfl h (fun cb h => ?_) (fun cb h => ?_)
    · refine ev_iincG dX10_hasToldTimes_79 rfl h rfl (fun v9 h => ?_)
      show Ev _ _ _ _ 82 _ _ _ [(2, (0 : Int)), (0, x1), (0, x2), (0, x3), (0, x4), (0, v9), (1, v1), (9, 0), (0, v5)] _
      refine ev_goto (tgt := 3) dX10_hasToldTimes_82 rfl ?_
      obtain rfl := Option.some.inj h
      exact ev_sub (L2 := [(2, (0 : Int)), (0, x1), (0, x2), (0, x3), (0, x4), (0, v9), (9, 0), (9, 0), (9, 0)]) K ⟨.inr rfl, .inr rfl, .inr rfl, .inr rfl, .inr rfl, .inr rfl, .inl rfl, .inl rfl, .inl rfl, trivial⟩
    obtain rfl := Option.some.inj h
    exact ev_sub (L2 := [(9, 0), (9, 0), (9, 0), (9, 0), (9, 0), (9, 0), (9, 0), (9, 0), (9, 0)]) K ⟨.inl rfl, .inl rfl, .inl rfl, .inl rfl, .inl rfl, .inl rfl, .inl rfl, .inl rfl, .inl rfl, trivial⟩
  obtain rfl := Option.some.inj h
  exact ev_sub (L2 := [(9, 0), (9, 0), (9, 0), (9, 0), (9, 0), (9, 0), (9, 0), (9, 0), (9, 0)]) K ⟨.inl rfl, .inl rfl, .inl rfl, .inl rfl, .inl rfl, .inl rfl, .inl rfl, .inl rfl, .inl rfl, trivial⟩
set_option maxHeartbeats 4000000 in
set_option maxRecDepth 20000 in
theorem e_X10_hasToldTimes_3 (σ : Mem) (x1 x2 x3 x4 x5 : Int)  {q : Int} (h : f_X10_hasToldTimes_3 σ x1 x2 x3 x4 x5 = some q) : Ev M_X10_hasToldTimes 218 218 (some (0, q), rho, σ) 3 218 rho σ [(2, (0 : Int)), (0, x1), (0, x2), (0, x3), (0, x4), (0, x5), (9, 0), (9, 0), (9, 0)] [] := by
  unfold f_X10_hasToldTimes_3 at h
  obtain ⟨e, hl, h⟩ := bind_of h
  refine loop_ev (K := K_X10_hasToldTimes_3 σ x1 x2 x3 x4 (some (0, q), rho, σ)) (b_X10_hasToldTimes_3 σ x1 x2 x3 x4) FU x5 e hl ?_
  rcases e with e | e
  · show Ev M_X10_hasToldTimes 218 218 _ 36 218 rho σ [(9, 0), (9, 0), (9, 0), (9, 0), (9, 0), (9, 0), (9, 0), (9, 0), (9, 0)] []
    replace h : some (0 : Int) = some q := h
    refine ev_iconst dX10_hasToldTimes_36 (by decide) ?_
    obtain rfl := Option.some.inj h
    exact ev_zret dX10_hasToldTimes_37 rfl (chk_pos (.inl rfl))
  rcases e with e | e
  · show Ev M_X10_hasToldTimes 218 218 _ 77 218 rho σ [(9, 0), (9, 0), (9, 0), (9, 0), (9, 0), (9, 0), (9, 0), (9, 0), (9, 0)] []
    replace h : some (0 : Int) = some q := h
    refine ev_iconst dX10_hasToldTimes_77 (by decide) ?_
    obtain rfl := Option.some.inj h
    exact ev_zret dX10_hasToldTimes_78 rfl (chk_pos (.inl rfl))
  · show Ev M_X10_hasToldTimes 218 218 _ 85 218 rho σ [(9, 0), (9, 0), (9, 0), (9, 0), (9, 0), (9, 0), (9, 0), (9, 0), (9, 0)] []
    replace h : some (1 : Int) = some q := h
    refine ev_iconst dX10_hasToldTimes_85 (by decide) ?_
    obtain rfl := Option.some.inj h
    exact ev_zret dX10_hasToldTimes_86 rfl (chk_pos (.inr rfl))
set_option maxHeartbeats 4000000 in
set_option maxRecDepth 20000 in
theorem c_X10_hasToldTimes {σ : Mem} {x1 x2 x3 x4 : Int}  {q : Int} (h : f_X10_hasToldTimes σ x1 x2 x3 x4 = some q) : Ms yX10_hasToldTimes M_X10_hasToldTimes 218 218 [(2, (0 : Int)), (0, x1), (0, x2), (0, x3), (0, x4)] rho σ (some (0, q), rho, σ) := by
  refine Ms.of 4 (by decide +kernel) rfl (fun z => absurd z (by decide)) (fun _ _ _ => trivial) rfl rfl ?_
  unfold f_X10_hasToldTimes at h
  show Ev M_X10_hasToldTimes 218 218 _ 0 218 rho σ [(2, (0 : Int)), (0, x1), (0, x2), (0, x3), (0, x4), (9, 0), (9, 0), (9, 0), (9, 0)] []
  refine ev_iconst dX10_hasToldTimes_0 (by decide) ?_
  refine ev_istore dX10_hasToldTimes_1 rfl (by decide) ?_
  show Ev _ _ _ _ 3 _ _ _ [(2, (0 : Int)), (0, x1), (0, x2), (0, x3), (0, x4), (0, (0 : Int)), (9, 0), (9, 0), (9, 0)] _
  exact ev_sub (L2 := [(2, (0 : Int)), (0, x1), (0, x2), (0, x3), (0, x4), (0, (0 : Int)), (9, 0), (9, 0), (9, 0)]) (e_X10_hasToldTimes_3 σ x1 x2 x3 x4 (0 : Int) h) ⟨.inr rfl, .inr rfl, .inr rfl, .inr rfl, .inr rfl, .inr rfl, .inl rfl, .inl rfl, .inl rfl, trivial⟩
def K_X10_kinds_126 (σ : Mem) (x1 x2 x3 : Int) (r : Option V × Mem × Mem) : (Int × Int) ⊕ ((Int)) → Prop := Sum.elim (fun a => Ev M_X10_kinds 218 218 r 126 218 rho σ [(2, (0 : Int)), (0, x1), (0, x2), (0, x3), (9, 0), (0, a.1), (0, a.2)] []) (fun e => Ev M_X10_kinds 218 218 r 168 218 rho σ [(9, 0), (9, 0), (9, 0), (9, 0), (9, 0), (0, e), (9, 0)] [])
def K_X10_kinds_79 (σ : Mem) (x1 x2 x3 : Int) (r : Option V × Mem × Mem) : (Int) ⊕ ((Unit) ⊕ (Unit)) → Prop := Sum.elim (fun a => Ev M_X10_kinds 218 218 r 79 218 rho σ [(2, (0 : Int)), (0, x1), (0, x2), (0, x3), (9, 0), (0, a), (9, 0)] []) (Sum.elim (fun e => Ev M_X10_kinds 218 218 r 107 218 rho σ [(2, (0 : Int)), (9, 0), (9, 0), (9, 0), (9, 0), (9, 0), (9, 0)] []) (fun e => Ev M_X10_kinds 218 218 r 120 218 rho σ [(2, (0 : Int)), (0, x1), (0, x2), (0, x3), (9, 0), (9, 0), (9, 0)] []))
set_option maxHeartbeats 4000000 in
set_option maxRecDepth 20000 in
theorem e_X10_kinds_25 (σ : Mem)  {q : (Int × Mem)} (h : f_X10_kinds_25 σ  = some q) : Ev M_X10_kinds 218 218 (some (0, q.1), rho, q.2) 25 218 rho σ [(2, (0 : Int)), (9, 0), (9, 0), (9, 0), (9, 0), (9, 0), (9, 0)] [] := by
  unfold f_X10_kinds_25 at h
  refine ev_aload_n dX10_kinds_25 rfl (by decide) ?_
  refine ev_bipush dX10_kinds_26 (by decide) (by decide) ?_
  obtain ⟨v15, hc16, h⟩ := bind_of h
  refine ev_invV_v (k := (0 : Int)) (av := [(0, (-52 : Int))]) (st := []) (v := (0, v15.1)) (τ := v15.2) dX10_kinds_28 ml_X10_88 mv_X10_refuse (T := TX10) (ci := 9) rfl sp0 (by decide) (by decide) rfl ⟨Nat.le_of_ble_eq_true rfl, Nat.le_of_ble_eq_true rfl⟩ (Nat.le_of_ble_eq_true rfl) (c_X10_refuse hc16) ?_
  obtain rfl := Option.some.inj h
  dsimp only
  exact ev_iret dX10_kinds_31 rfl rfl
set_option maxHeartbeats 4000000 in
set_option maxRecDepth 20000 in
theorem e_X10_kinds_107 (σ : Mem)  {q : (Int × Mem)} (h : f_X10_kinds_107 σ  = some q) : Ev M_X10_kinds 218 218 (some (0, q.1), rho, q.2) 107 218 rho σ [(2, (0 : Int)), (9, 0), (9, 0), (9, 0), (9, 0), (9, 0), (9, 0)] [] := by
  unfold f_X10_kinds_107 at h
  refine ev_aload_n dX10_kinds_107 rfl (by decide) ?_
  refine ev_bipush dX10_kinds_108 (by decide) (by decide) ?_
  obtain ⟨v22, hc23, h⟩ := bind_of h
  refine ev_invV_v (k := (0 : Int)) (av := [(0, (-55 : Int))]) (st := []) (v := (0, v22.1)) (τ := v22.2) dX10_kinds_110 ml_X10_88 mv_X10_refuse (T := TX10) (ci := 9) rfl sp0 (by decide) (by decide) rfl ⟨Nat.le_of_ble_eq_true rfl, Nat.le_of_ble_eq_true rfl⟩ (Nat.le_of_ble_eq_true rfl) (c_X10_refuse hc23) ?_
  obtain rfl := Option.some.inj h
  dsimp only
  exact ev_iret dX10_kinds_113 rfl rfl
set_option maxHeartbeats 4000000 in
set_option maxRecDepth 20000 in
theorem e_X10_kinds_162 (σ : Mem) (x1 x2 x3 x5 x6 : Int)  {q : ((Int × Int) ⊕ ((Int)))} (h : f_X10_kinds_162 σ x1 x2 x3 x5 x6 = some q) {r : Option V × Mem × Mem} (K : K_X10_kinds_126 σ x1 x2 x3 r q) : Ev M_X10_kinds 218 218 r 162 218 rho σ [(2, (0 : Int)), (0, x1), (0, x2), (0, x3), (9, 0), (0, x5), (0, x6)] [] := by
  unfold f_X10_kinds_162 at h
  refine ev_iincG dX10_kinds_162 rfl h rfl (fun v27 h => ?_)
  show Ev _ _ _ _ 165 _ _ _ [(2, (0 : Int)), (0, x1), (0, x2), (0, x3), (9, 0), (0, x5), (0, v27)] _
  refine ev_goto (tgt := 126) dX10_kinds_165 rfl ?_
  obtain rfl := Option.some.inj h
  exact ev_sub (L2 := [(2, (0 : Int)), (0, x1), (0, x2), (0, x3), (9, 0), (0, x5), (0, v27)]) K ⟨.inr rfl, .inr rfl, .inr rfl, .inr rfl, .inl rfl, .inr rfl, .inr rfl, trivial⟩
set_option maxHeartbeats 4000000 in
set_option maxRecDepth 20000 in
theorem b_X10_kinds_126 (σ : Mem) (x1 x2 x3 : Int)  {r : Option V × Mem × Mem} : ∀ a x, f_X10_kinds_126B σ x1 x2 x3 a = some x → K_X10_kinds_126 σ x1 x2 x3 r x → K_X10_kinds_126 σ x1 x2 x3 r (.inl a) := by
  intro a x h K
  obtain ⟨x5, x6⟩ := a
  have h : f_X10_kinds_126C σ x1 x2 x3 x5 x6 = some x := h
  unfold f_X10_kinds_126C at h
  show Ev M_X10_kinds 218 218 r 126 218 rho σ [(2, (0 : Int)), (0, x1), (0, x2), (0, x3), (9, 0), (0, x5), (0, x6)] []
  refine ev_iload dX10_kinds_126 rfl ?_
  refine ev_bipush dX10_kinds_128 (by decide) (by decide) ?_
  refine ev_icmp_ge (tgt := 168) dX10_kinds_130 rfl h (fun cb h => ?_) (fun cb h => ?_)
  · obtain rfl := Option.some.inj h
    exact ev_sub (L2 := [(9, 0), (9, 0), (9, 0), (9, 0), (9, 0), (0, x5), (9, 0)]) K ⟨.inl rfl, .inl rfl, .inl rfl, .inl rfl, .inl rfl, .inr rfl, .inl rfl, trivial⟩
  refine ev_aload_n dX10_kinds_133 rfl (by decide) ?_
  refine ev_iload dX10_kinds_134 rfl ?_
  refine ev_aload_n dX10_kinds_136 rfl (by decide) ?_
  refine ev_getf (j := 0) (t := 2) (x := (1 : Int)) dX10_kinds_137 cf_X10 wf_X10_12 sp0 (by decide) (by decide) rfl (by decide) (rp0_0 _) ?_
  refine ev_getf (j := 4) (t := 2) (x := (6 : Int)) dX10_kinds_140 cf_X0 wf_X10_143 sp1 (by decide) (by decide) rfl (by decide) (rp1_4 _) ?_
  refine ev_iload_n dX10_kinds_143 rfl ?_
  refine ev_iald dX10_kinds_144 sp6 (by decide) (by decide) h (fun h => ?_)
  refine ev_iload_n dX10_kinds_145 rfl ?_
  refine ev_iload_n dX10_kinds_146 rfl ?_
  obtain ⟨v24, hc25, h⟩ := bind_of h
  refine ev_invV_v (k := (0 : Int)) (av := [(0, x6), (0, (σ (6 : Int) x1)), (0, x2), (0, x3)]) (st := []) (v := (0, v24)) (τ := σ) dX10_kinds_147 ml_X10_387 mv_X10_hasToldTimes (T := TX10) (ci := 9) rfl sp0 (by decide) (by decide) rfl ⟨Nat.le_of_ble_eq_true rfl, Nat.le_of_ble_eq_true rfl⟩ (Nat.le_of_ble_eq_true rfl) (c_X10_hasToldTimes hc25) ?_
  refine ev_if_eq (tgt := 162) dX10_kinds_150 rfl h (fun cb h => ?_) (fun cb h => ?_)
  · exact ev_sub (L2 := [(2, (0 : Int)), (0, x1), (0, x2), (0, x3), (9, 0), (0, x5), (0, x6)]) (e_X10_kinds_162 σ x1 x2 x3 x5 x6 h K) ⟨.inr rfl, .inr rfl, .inr rfl, .inr rfl, .inl rfl, .inr rfl, .inr rfl, trivial⟩
  refine ev_iload dX10_kinds_153 rfl ?_
  refine ev_iconst dX10_kinds_155 (by decide) ?_
  refine ev_iload dX10_kinds_156 rfl ?_
  refine ev_ishl dX10_kinds_158 ?_
  refine ev_ior dX10_kinds_159 ?_
  refine ev_istoreG dX10_kinds_160 h rfl (by decide) (fun v26 h => ?_)
  show Ev _ _ _ _ 162 _ _ _ [(2, (0 : Int)), (0, x1), (0, x2), (0, x3), (9, 0), (0, v26), (0, x6)] _
  exact ev_sub (L2 := [(2, (0 : Int)), (0, x1), (0, x2), (0, x3), (9, 0), (0, v26), (0, x6)]) (e_X10_kinds_162 σ x1 x2 x3 v26 x6 h K) ⟨.inr rfl, .inr rfl, .inr rfl, .inr rfl, .inl rfl, .inr rfl, .inr rfl, trivial⟩
set_option maxHeartbeats 4000000 in
set_option maxRecDepth 20000 in
theorem e_X10_kinds_126 (σ : Mem) (x1 x2 x3 x5 x6 : Int)  {q : (Int × Mem)} (h : f_X10_kinds_126 σ x1 x2 x3 x5 x6 = some q) : Ev M_X10_kinds 218 218 (some (0, q.1), rho, q.2) 126 218 rho σ [(2, (0 : Int)), (0, x1), (0, x2), (0, x3), (9, 0), (0, x5), (0, x6)] [] := by
  unfold f_X10_kinds_126 at h
  obtain ⟨e, hl, h⟩ := bind_of h
  refine loop_ev (K := K_X10_kinds_126 σ x1 x2 x3 (some (0, q.1), rho, q.2)) (b_X10_kinds_126 σ x1 x2 x3) FU (x5, x6) e hl ?_
  show Ev M_X10_kinds 218 218 _ 168 218 rho σ [(9, 0), (9, 0), (9, 0), (9, 0), (9, 0), (0, e), (9, 0)] []
  replace h : some (e, σ) = some q := h
  refine ev_iload dX10_kinds_168 rfl ?_
  obtain rfl := Option.some.inj h
  dsimp only
  exact ev_iret dX10_kinds_170 rfl rfl
set_option maxHeartbeats 4000000 in
set_option maxRecDepth 20000 in
theorem e_X10_kinds_120 (σ : Mem) (x1 x2 x3 : Int)  {q : (Int × Mem)} (h : f_X10_kinds_120 σ x1 x2 x3 = some q) : Ev M_X10_kinds 218 218 (some (0, q.1), rho, q.2) 120 218 rho σ [(2, (0 : Int)), (0, x1), (0, x2), (0, x3), (9, 0), (9, 0), (9, 0)] [] := by
  unfold f_X10_kinds_120 at h
  refine ev_iconst dX10_kinds_120 (by decide) ?_
  refine ev_istore dX10_kinds_121 rfl (by decide) ?_
  show Ev _ _ _ _ 123 _ _ _ [(2, (0 : Int)), (0, x1), (0, x2), (0, x3), (9, 0), (0, (0 : Int)), (9, 0)] _
  refine ev_iconst dX10_kinds_123 (by decide) ?_
  refine ev_istore dX10_kinds_124 rfl (by decide) ?_
  show Ev _ _ _ _ 126 _ _ _ [(2, (0 : Int)), (0, x1), (0, x2), (0, x3), (9, 0), (0, (0 : Int)), (0, (0 : Int))] _
  exact ev_sub (L2 := [(2, (0 : Int)), (0, x1), (0, x2), (0, x3), (9, 0), (0, (0 : Int)), (0, (0 : Int))]) (e_X10_kinds_126 σ x1 x2 x3 (0 : Int) (0 : Int) h) ⟨.inr rfl, .inr rfl, .inr rfl, .inr rfl, .inl rfl, .inr rfl, .inr rfl, trivial⟩
set_option maxHeartbeats 4000000 in
set_option maxRecDepth 20000 in
theorem b_X10_kinds_79 (σ : Mem) (x1 x2 x3 : Int)  {r : Option V × Mem × Mem} : ∀ a x, f_X10_kinds_79B σ x1 x2 x3 a = some x → K_X10_kinds_79 σ x1 x2 x3 r x → K_X10_kinds_79 σ x1 x2 x3 r (.inl a) := by
  intro a x h K
  have ⟨x5, ea⟩ : ∃ z, z = a := ⟨_, rfl⟩
  subst ea
  have h : f_X10_kinds_79C σ x1 x2 x3 x5 = some x := h
  unfold f_X10_kinds_79C at h
  show Ev M_X10_kinds 218 218 r 79 218 rho σ [(2, (0 : Int)), (0, x1), (0, x2), (0, x3), (9, 0), (0, x5), (9, 0)] []
  refine ev_iload dX10_kinds_79 rfl ?_
  refine ev_iload_n dX10_kinds_81 rfl ?_
  refine ev_icmp_ge (tgt := 120) dX10_kinds_82 rfl h (fun cb h => ?_) (fun cb h => ?_)
  · obtain rfl := Option.some.inj h
    exact ev_sub (L2 := [(2, (0 : Int)), (0, x1), (0, x2), (0, x3), (9, 0), (9, 0), (9, 0)]) K ⟨.inr rfl, .inr rfl, .inr rfl, .inr rfl, .inl rfl, .inl rfl, .inl rfl, trivial⟩
  refine ev_aload_n dX10_kinds_85 rfl (by decide) ?_
  refine ev_getf (j := 0) (t := 2) (x := (1 : Int)) dX10_kinds_86 cf_X10 wf_X10_12 sp0 (by decide) (by decide) rfl (by decide) (rp0_0 _) ?_
  refine ev_aload_n dX10_kinds_89 rfl (by decide) ?_
  refine ev_getf (j := 5) (t := 2) (x := (30 : Int)) dX10_kinds_90 cf_X10 wf_X10_32 sp0 (by decide) (by decide) rfl (by decide) (rp0_5 _) ?_
  refine ev_iload_n dX10_kinds_93 rfl ?_
  refine ev_iconst dX10_kinds_94 (by decide) ?_
  refine ev_iload dX10_kinds_95 rfl ?_
  refine ev_imul dX10_kinds_97 ?_
  obtain ⟨v17, hc18, h⟩ := bind_of h
  refine ev_invV_v (k := (30 : Int)) (av := [(0, x2), (0, (jmul (2 : Int) x5))]) (st := [(2, (1 : Int))]) (v := (1, v17)) (τ := σ) dX10_kinds_98 ml_X10_118 mv_X6_elementAt (T := TX6) (ci := 5) rfl sp30 (by decide) (by decide) rfl ⟨Nat.le_of_ble_eq_true rfl, Nat.le_of_ble_eq_true rfl⟩ (Nat.le_of_ble_eq_true rfl) (c_X6_elementAt hc18) ?_
  obtain ⟨v19, hc20, h⟩ := bind_of h
  refine ev_invV_v (k := (1 : Int)) (av := [(1, v17)]) (st := []) (v := (0, v19)) (τ := σ) dX10_kinds_101 ml_X10_164 mv_X0_hasPaper (T := TX0) (ci := 0) rfl sp1 (by decide) (by decide) rfl ⟨Nat.le_of_ble_eq_true rfl, Nat.le_of_ble_eq_true rfl⟩ (Nat.le_of_ble_eq_true rfl) (c_X0_hasPaper hB1 hc20) ?_
  refine ev_if_ne (tgt := 114) dX10_kinds_104 rfl h (fun cb h => ?_) (fun cb h => ?_)
  · refine ev_iincG dX10_kinds_114 rfl h rfl (fun v21 h => ?_)
    show Ev _ _ _ _ 117 _ _ _ [(2, (0 : Int)), (0, x1), (0, x2), (0, x3), (9, 0), (0, v21), (9, 0)] _
    refine ev_goto (tgt := 79) dX10_kinds_117 rfl ?_
    obtain rfl := Option.some.inj h
    exact ev_sub (L2 := [(2, (0 : Int)), (0, x1), (0, x2), (0, x3), (9, 0), (0, v21), (9, 0)]) K ⟨.inr rfl, .inr rfl, .inr rfl, .inr rfl, .inl rfl, .inr rfl, .inl rfl, trivial⟩
  obtain rfl := Option.some.inj h
  exact ev_sub (L2 := [(2, (0 : Int)), (9, 0), (9, 0), (9, 0), (9, 0), (9, 0), (9, 0)]) K ⟨.inr rfl, .inl rfl, .inl rfl, .inl rfl, .inl rfl, .inl rfl, .inl rfl, trivial⟩
set_option maxHeartbeats 4000000 in
set_option maxRecDepth 20000 in
theorem e_X10_kinds_79 (σ : Mem) (x1 x2 x3 x5 : Int)  {q : (Int × Mem)} (h : f_X10_kinds_79 σ x1 x2 x3 x5 = some q) : Ev M_X10_kinds 218 218 (some (0, q.1), rho, q.2) 79 218 rho σ [(2, (0 : Int)), (0, x1), (0, x2), (0, x3), (9, 0), (0, x5), (9, 0)] [] := by
  unfold f_X10_kinds_79 at h
  obtain ⟨e, hl, h⟩ := bind_of h
  refine loop_ev (K := K_X10_kinds_79 σ x1 x2 x3 (some (0, q.1), rho, q.2)) (b_X10_kinds_79 σ x1 x2 x3) FU x5 e hl ?_
  rcases e with e | e
  · show Ev M_X10_kinds 218 218 _ 107 218 rho σ [(2, (0 : Int)), (9, 0), (9, 0), (9, 0), (9, 0), (9, 0), (9, 0)] []
    replace h : f_X10_kinds_107 σ = some q := h
    exact ev_sub (L2 := [(2, (0 : Int)), (9, 0), (9, 0), (9, 0), (9, 0), (9, 0), (9, 0)]) (e_X10_kinds_107 σ h) ⟨.inr rfl, .inl rfl, .inl rfl, .inl rfl, .inl rfl, .inl rfl, .inl rfl, trivial⟩
  · show Ev M_X10_kinds 218 218 _ 120 218 rho σ [(2, (0 : Int)), (0, x1), (0, x2), (0, x3), (9, 0), (9, 0), (9, 0)] []
    replace h : f_X10_kinds_120 σ x1 x2 x3 = some q := h
    exact ev_sub (L2 := [(2, (0 : Int)), (0, x1), (0, x2), (0, x3), (9, 0), (9, 0), (9, 0)]) (e_X10_kinds_120 σ x1 x2 x3 h) ⟨.inr rfl, .inr rfl, .inr rfl, .inr rfl, .inl rfl, .inl rfl, .inl rfl, trivial⟩
set_option maxHeartbeats 4000000 in
set_option maxRecDepth 20000 in
theorem c_X10_kinds {σ : Mem} {x1 x2 x3 : Int}  {q : (Int × Mem)} (h : f_X10_kinds σ x1 x2 x3 = some q) : Ms yX10_kinds M_X10_kinds 218 218 [(2, (0 : Int)), (0, x1), (0, x2), (0, x3)] rho σ (some (0, q.1), rho, q.2) := by
  refine Ms.of 3 (by decide +kernel) rfl (fun z => absurd z (by decide)) (fun _ _ _ => trivial) rfl rfl ?_
  unfold f_X10_kinds at h
  show Ev M_X10_kinds 218 218 _ 0 218 rho σ [(2, (0 : Int)), (0, x1), (0, x2), (0, x3), (9, 0), (9, 0), (9, 0)] []
  refine ev_aload_n dX10_kinds_0 rfl (by decide) ?_
  refine ev_getf (j := 0) (t := 2) (x := (1 : Int)) dX10_kinds_1 cf_X10 wf_X10_12 sp0 (by decide) (by decide) rfl (by decide) (rp0_0 _) ?_
  refine ev_iload_n dX10_kinds_4 rfl ?_
  obtain ⟨v1, hc2, h⟩ := bind_of h
  refine ev_invV_v (k := (1 : Int)) (av := [(0, x1)]) (st := []) (v := (0, v1)) (τ := σ) dX10_kinds_5 ml_X10_122 mv_X0_hasCand (T := TX0) (ci := 0) rfl sp1 (by decide) (by decide) rfl ⟨Nat.le_of_ble_eq_true rfl, Nat.le_of_ble_eq_true rfl⟩ (Nat.le_of_ble_eq_true rfl) (c_X0_hasCand hB1 hc2) ?_
  refine ev_if_eq (tgt := 25) dX10_kinds_8 rfl h (fun cb h => ?_) (fun cb h => ?_)
  · exact ev_sub (L2 := [(2, (0 : Int)), (9, 0), (9, 0), (9, 0), (9, 0), (9, 0), (9, 0)]) (e_X10_kinds_25 σ h) ⟨.inr rfl, .inl rfl, .inl rfl, .inl rfl, .inl rfl, .inl rfl, .inl rfl, trivial⟩
  refine ev_iload_n dX10_kinds_11 rfl ?_
  obtain ⟨v3, hc4, h⟩ := bind_of h
  refine ev_invS_v (av := [(0, x2)]) (st := []) (v := (0, v3)) (τ := σ) dX10_kinds_12 ml_X10_81 mt_X6_isShelf rfl ⟨Nat.le_of_ble_eq_true rfl, Nat.le_of_ble_eq_true rfl⟩ (Nat.le_of_ble_eq_true rfl) (c_X6_isShelf hc4) ?_
  refine ev_if_eq (tgt := 25) dX10_kinds_15 rfl h (fun cb h => ?_) (fun cb h => ?_)
  · exact ev_sub (L2 := [(2, (0 : Int)), (9, 0), (9, 0), (9, 0), (9, 0), (9, 0), (9, 0)]) (e_X10_kinds_25 σ h) ⟨.inr rfl, .inl rfl, .inl rfl, .inl rfl, .inl rfl, .inl rfl, .inl rfl, trivial⟩
  refine ev_iload_n dX10_kinds_18 rfl ?_
  obtain ⟨v5, hc6, h⟩ := bind_of h
  refine ev_invS_v (av := [(0, x3)]) (st := []) (v := (0, v5)) (τ := σ) dX10_kinds_19 ml_X10_384 mt_X10_isTold rfl ⟨Nat.le_of_ble_eq_true rfl, Nat.le_of_ble_eq_true rfl⟩ (Nat.le_of_ble_eq_true rfl) (c_X10_isTold hc6) ?_
  refine ev_if_ne (tgt := 32) dX10_kinds_22 rfl h (fun cb h => ?_) (fun cb h => ?_)
  · refine ev_aload_n dX10_kinds_32 rfl (by decide) ?_
    refine ev_getf (j := 5) (t := 2) (x := (30 : Int)) dX10_kinds_33 cf_X10 wf_X10_32 sp0 (by decide) (by decide) rfl (by decide) (rp0_5 _) ?_
    refine ev_iload_n dX10_kinds_36 rfl ?_
    obtain ⟨v7, hc8, h⟩ := bind_of h
    refine ev_invV_v (k := (30 : Int)) (av := [(0, x2)]) (st := []) (v := (0, v7)) (τ := σ) dX10_kinds_37 ml_X10_96 mv_X6_rowTrouble (T := TX6) (ci := 5) rfl sp30 (by decide) (by decide) rfl ⟨Nat.le_of_ble_eq_true rfl, Nat.le_of_ble_eq_true rfl⟩ (Nat.le_of_ble_eq_true rfl) (c_X6_rowTrouble hc8) ?_
    refine ev_istore dX10_kinds_40 rfl (by decide) ?_
    show Ev _ _ _ _ 42 _ _ _ [(2, (0 : Int)), (0, x1), (0, x2), (0, x3), (0, v7), (9, 0), (9, 0)] _
    refine ev_iload dX10_kinds_42 rfl ?_
    refine ev_if_eq (tgt := 54) dX10_kinds_44 rfl h (fun cb h => ?_) (fun cb h => ?_)
    · refine ev_aload_n dX10_kinds_54 rfl (by decide) ?_
      refine ev_getf (j := 5) (t := 2) (x := (30 : Int)) dX10_kinds_55 cf_X10 wf_X10_32 sp0 (by decide) (by decide) rfl (by decide) (rp0_5 _) ?_
      refine ev_iload_n dX10_kinds_58 rfl ?_
      refine ev_iconst dX10_kinds_59 (by decide) ?_
      refine ev_iconst dX10_kinds_60 (by decide) ?_
      refine ev_iload_n dX10_kinds_61 rfl ?_
      refine ev_imul dX10_kinds_62 ?_
      obtain ⟨v9, hc10, h⟩ := bind_of h
      refine ev_invV_v (k := (30 : Int)) (av := [(0, x2), (0, (0 : Int)), (0, (jmul (2 : Int) x3))]) (st := []) (v := (0, v9)) (τ := σ) dX10_kinds_63 ml_X10_110 mv_X6_hasElements (T := TX6) (ci := 5) rfl sp30 (by decide) (by decide) rfl ⟨Nat.le_of_ble_eq_true rfl, Nat.le_of_ble_eq_true rfl⟩ (Nat.le_of_ble_eq_true rfl) (c_X6_hasElements hc10) ?_
      refine ev_if_ne (tgt := 76) dX10_kinds_66 rfl h (fun cb h => ?_) (fun cb h => ?_)
      · refine ev_iconst dX10_kinds_76 (by decide) ?_
        refine ev_istore dX10_kinds_77 rfl (by decide) ?_
        show Ev _ _ _ _ 79 _ _ _ [(2, (0 : Int)), (0, x1), (0, x2), (0, x3), (0, v7), (0, (0 : Int)), (9, 0)] _
        exact ev_sub (L2 := [(2, (0 : Int)), (0, x1), (0, x2), (0, x3), (9, 0), (0, (0 : Int)), (9, 0)]) (e_X10_kinds_79 σ x1 x2 x3 (0 : Int) h) ⟨.inr rfl, .inr rfl, .inr rfl, .inr rfl, .inl rfl, .inr rfl, .inl rfl, trivial⟩
      refine ev_aload_n dX10_kinds_69 rfl (by decide) ?_
      refine ev_bipush dX10_kinds_70 (by decide) (by decide) ?_
      obtain ⟨v11, hc12, h⟩ := bind_of h
      refine ev_invV_v (k := (0 : Int)) (av := [(0, (-52 : Int))]) (st := []) (v := (0, v11.1)) (τ := v11.2) dX10_kinds_72 ml_X10_88 mv_X10_refuse (T := TX10) (ci := 9) rfl sp0 (by decide) (by decide) rfl ⟨Nat.le_of_ble_eq_true rfl, Nat.le_of_ble_eq_true rfl⟩ (Nat.le_of_ble_eq_true rfl) (c_X10_refuse hc12) ?_
      obtain rfl := Option.some.inj h
      dsimp only
      exact ev_iret dX10_kinds_75 rfl rfl
    refine ev_aload_n dX10_kinds_47 rfl (by decide) ?_
    refine ev_iload dX10_kinds_48 rfl ?_
    obtain ⟨v13, hc14, h⟩ := bind_of h
    refine ev_invV_v (k := (0 : Int)) (av := [(0, v7)]) (st := []) (v := (0, v13.1)) (τ := v13.2) dX10_kinds_50 ml_X10_88 mv_X10_refuse (T := TX10) (ci := 9) rfl sp0 (by decide) (by decide) rfl ⟨Nat.le_of_ble_eq_true rfl, Nat.le_of_ble_eq_true rfl⟩ (Nat.le_of_ble_eq_true rfl) (c_X10_refuse hc14) ?_
    obtain rfl := Option.some.inj h
    dsimp only
    exact ev_iret dX10_kinds_53 rfl rfl
  exact ev_sub (L2 := [(2, (0 : Int)), (9, 0), (9, 0), (9, 0), (9, 0), (9, 0), (9, 0)]) (e_X10_kinds_25 σ h) ⟨.inr rfl, .inl rfl, .inl rfl, .inl rfl, .inl rfl, .inl rfl, .inl rfl, trivial⟩
def K_X10_firstWrong_55 (σ : Mem) (x1 x3 x4 : Int) (r : Option V × Mem × Mem) : (Int × Int × Int × Int) ⊕ ((Int) ⊕ (Int) ⊕ (Unit)) → Prop := Sum.elim (fun a => Ev M_X10_firstWrong 218 218 r 55 218 rho σ [(2, (0 : Int)), (0, x1), (9, 0), (0, x3), (0, x4), (9, 0), (0, a.1), (0, a.2.1), (0, a.2.2.1), (0, a.2.2.2), (9, 0), (9, 0), (9, 0), (9, 0), (9, 0)] []) (Sum.elim (fun e => Ev M_X10_firstWrong 218 218 r 97 218 rho σ [(9, 0), (9, 0), (9, 0), (9, 0), (9, 0), (9, 0), (9, 0), (9, 0), (9, 0), (0, e), (9, 0), (9, 0), (9, 0), (9, 0), (9, 0)] []) (Sum.elim (fun e => Ev M_X10_firstWrong 218 218 r 174 218 rho σ [(9, 0), (9, 0), (9, 0), (9, 0), (9, 0), (9, 0), (9, 0), (9, 0), (9, 0), (0, e), (9, 0), (9, 0), (9, 0), (9, 0), (9, 0)] []) (fun e => Ev M_X10_firstWrong 218 218 r 196 218 rho σ [(9, 0), (9, 0), (9, 0), (9, 0), (9, 0), (9, 0), (9, 0), (9, 0), (9, 0), (9, 0), (9, 0), (9, 0), (9, 0), (9, 0), (9, 0)] [])))
set_option maxHeartbeats 4000000 in
set_option maxRecDepth 20000 in
theorem b_X10_firstWrong_55 (σ : Mem) (x1 x3 x4 : Int)  {r : Option V × Mem × Mem} : ∀ a x, f_X10_firstWrong_55B σ x1 x3 x4 a = some x → K_X10_firstWrong_55 σ x1 x3 x4 r x → K_X10_firstWrong_55 σ x1 x3 x4 r (.inl a) := by
  intro a x h K
  obtain ⟨x6, x7, x8, x9⟩ := a
  have h : f_X10_firstWrong_55C σ x1 x3 x4 x6 x7 x8 x9 = some x := h
  unfold f_X10_firstWrong_55C at h
  show Ev M_X10_firstWrong 218 218 r 55 218 rho σ [(2, (0 : Int)), (0, x1), (9, 0), (0, x3), (0, x4), (9, 0), (0, x6), (0, x7), (0, x8), (0, x9), (9, 0), (9, 0), (9, 0), (9, 0), (9, 0)] []
  refine ev_iload dX10_firstWrong_55 rfl ?_
  refine ev_iload dX10_firstWrong_57 rfl ?_
  refine ev_icmp_ge (tgt := 196) dX10_firstWrong_59 rfl h (fun cb h => ?_) (fun cb h => ?_)
  · obtain rfl := Option.some.inj h
    exact ev_sub (L2 := [(9, 0), (9, 0), (9, 0), (9, 0), (9, 0), (9, 0), (9, 0), (9, 0), (9, 0), (9, 0), (9, 0), (9, 0), (9, 0), (9, 0), (9, 0)]) K ⟨.inl rfl, .inl rfl, .inl rfl, .inl rfl, .inl rfl, .inl rfl, .inl rfl, .inl rfl, .inl rfl, .inl rfl, .inl rfl, .inl rfl, .inl rfl, .inl rfl, .inl rfl, trivial⟩
  refine ev_aload_n dX10_firstWrong_62 rfl (by decide) ?_
  refine ev_getf (j := 5) (t := 2) (x := (30 : Int)) dX10_firstWrong_63 cf_X10 wf_X10_32 sp0 (by decide) (by decide) rfl (by decide) (rp0_5 _) ?_
  refine ev_iload_n dX10_firstWrong_66 rfl ?_
  refine ev_iload dX10_firstWrong_67 rfl ?_
  obtain ⟨v9, hc10, h⟩ := bind_of h
  refine ev_invV_v (k := (30 : Int)) (av := [(0, x3), (0, x9)]) (st := []) (v := (1, v9)) (τ := σ) dX10_firstWrong_69 ml_X10_118 mv_X6_elementAt (T := TX6) (ci := 5) rfl sp30 (by decide) (by decide) rfl ⟨Nat.le_of_ble_eq_true rfl, Nat.le_of_ble_eq_true rfl⟩ (Nat.le_of_ble_eq_true rfl) (c_X6_elementAt hc10) ?_
  refine ev_lstore dX10_firstWrong_72 rfl (by decide) ?_
  show Ev _ _ _ _ 74 _ _ _ [(2, (0 : Int)), (0, x1), (9, 0), (0, x3), (0, x4), (9, 0), (0, x6), (0, x7), (0, x8), (0, x9), (1, v9), (9, 0), (9, 0), (9, 0), (9, 0)] _
  refine ev_aload_n dX10_firstWrong_74 rfl (by decide) ?_
  refine ev_getf (j := 0) (t := 2) (x := (1 : Int)) dX10_firstWrong_75 cf_X10 wf_X10_12 sp0 (by decide) (by decide) rfl (by decide) (rp0_0 _) ?_
  refine ev_lload dX10_firstWrong_78 rfl ?_
  obtain ⟨v11, hc12, h⟩ := bind_of h
  refine ev_invV_v (k := (1 : Int)) (av := [(1, v9)]) (st := []) (v := (0, v11)) (τ := σ) dX10_firstWrong_80 ml_X10_164 mv_X0_hasPaper (T := TX0) (ci := 0) rfl sp1 (by decide) (by decide) rfl ⟨Nat.le_of_ble_eq_true rfl, Nat.le_of_ble_eq_true rfl⟩ (Nat.le_of_ble_eq_true rfl) (c_X0_hasPaper hB1 hc12) ?_
  refine ev_if_eq (tgt := 97) dX10_firstWrong_83 rfl h (fun cb h => ?_) (fun cb h => ?_)
  · obtain rfl := Option.some.inj h
    exact ev_sub (L2 := [(9, 0), (9, 0), (9, 0), (9, 0), (9, 0), (9, 0), (9, 0), (9, 0), (9, 0), (0, x9), (9, 0), (9, 0), (9, 0), (9, 0), (9, 0)]) K ⟨.inl rfl, .inl rfl, .inl rfl, .inl rfl, .inl rfl, .inl rfl, .inl rfl, .inl rfl, .inl rfl, .inr rfl, .inl rfl, .inl rfl, .inl rfl, .inl rfl, .inl rfl, trivial⟩
  refine ev_iload dX10_firstWrong_86 rfl ?_
  refine ev_lload dX10_firstWrong_88 rfl ?_
  refine ev_l2i dX10_firstWrong_90 ?_
  obtain ⟨v13, hc14, h⟩ := bind_of h
  refine ev_invS_v (av := [(0, x6), (0, (lj v9))]) (st := []) (v := (0, v13)) (τ := σ) dX10_firstWrong_91 ml_X10_438 mt_X10_hasBit rfl ⟨Nat.le_of_ble_eq_true rfl, Nat.le_of_ble_eq_true rfl⟩ (Nat.le_of_ble_eq_true rfl) (c_X10_hasBit hc14) ?_
  refine ev_if_ne (tgt := 100) dX10_firstWrong_94 rfl h (fun cb h => ?_) (fun cb h => ?_)
  · refine ev_lload dX10_firstWrong_100 rfl ?_
    refine ev_l2i dX10_firstWrong_102 ?_
    refine ev_istoreG dX10_firstWrong_103 h rfl (by decide) (fun v15 h => ?_)
    show Ev _ _ _ _ 105 _ _ _ [(2, (0 : Int)), (0, x1), (9, 0), (0, x3), (0, x4), (9, 0), (0, x6), (0, x7), (0, x8), (0, x9), (1, v9), (9, 0), (0, v15), (9, 0), (9, 0)] _
    refine ev_iload dX10_firstWrong_105 rfl ?_
    refine ev_iconst dX10_firstWrong_107 (by decide) ?_
    refine ev_iload dX10_firstWrong_108 rfl ?_
    refine ev_ishl dX10_firstWrong_110 ?_
    refine ev_iconst dX10_firstWrong_111 (by decide) ?_
    refine ev_ixor dX10_firstWrong_112 ?_
    refine ev_iand dX10_firstWrong_113 ?_
    refine ev_istoreG dX10_firstWrong_114 h rfl (by decide) (fun v16 h => ?_)
    show Ev _ _ _ _ 116 _ _ _ [(2, (0 : Int)), (0, x1), (9, 0), (0, x3), (0, x4), (9, 0), (0, v16), (0, x7), (0, x8), (0, x9), (1, v9), (9, 0), (0, v15), (9, 0), (9, 0)] _
    show Ev _ _ _ _ 116 _ _ _ _ _
    refine ev_aload_n dX10_firstWrong_116 rfl (by decide) ?_
    refine ev_getf (j := 0) (t := 2) (x := (1 : Int)) dX10_firstWrong_117 cf_X10 wf_X10_12 sp0 (by decide) (by decide) rfl (by decide) (rp0_0 _) ?_
    refine ev_iload_n dX10_firstWrong_120 rfl ?_
    refine ev_iload dX10_firstWrong_121 rfl ?_
    obtain ⟨v17, hc18, h⟩ := bind_of h
    refine ev_invV_v (k := (1 : Int)) (av := [(0, x1), (0, v15)]) (st := []) (v := (0, v17)) (τ := σ) dX10_firstWrong_123 ml_X10_262 mv_X0_timeFor (T := TX0) (ci := 0) rfl sp1 (by decide) (by decide) rfl ⟨Nat.le_of_ble_eq_true rfl, Nat.le_of_ble_eq_true rfl⟩ (Nat.le_of_ble_eq_true rfl) (c_X0_timeFor hB1 hc18) ?_
    refine ev_istore dX10_firstWrong_126 rfl (by decide) ?_
    show Ev _ _ _ _ 128 _ _ _ [(2, (0 : Int)), (0, x1), (9, 0), (0, x3), (0, x4), (9, 0), (0, v16), (0, x7), (0, x8), (0, x9), (1, v9), (9, 0), (0, v15), (0, v17), (9, 0)] _
    refine ev_aload_n dX10_firstWrong_128 rfl (by decide) ?_
    refine ev_getf (j := 0) (t := 2) (x := (1 : Int)) dX10_firstWrong_129 cf_X10 wf_X10_12 sp0 (by decide) (by decide) rfl (by decide) (rp0_0 _) ?_
    refine ev_getf (j := 1) (t := 2) (x := (3 : Int)) dX10_firstWrong_132 cf_X0 wf_X10_168 sp1 (by decide) (by decide) rfl (by decide) (rp1_1 _) ?_
    refine ev_iload dX10_firstWrong_135 rfl ?_
    refine ev_iald dX10_firstWrong_137 sp3 (by decide) (by decide) h (fun h => ?_)
    refine ev_iload dX10_firstWrong_138 rfl ?_
    show Ev _ _ _ _ 140 _ _ _ _ _
    refine ev_mx dX10_firstWrong_140 wa_X10_441 wm_max (by decide) (Nat.le_of_ble_eq_true rfl) ?_
    refine ev_iload dX10_firstWrong_143 rfl ?_
    refine ev_iadd dX10_firstWrong_145 ?_
    refine ev_istoreG dX10_firstWrong_146 h rfl (by decide) (fun v19 h => ?_)
    show Ev _ _ _ _ 148 _ _ _ [(2, (0 : Int)), (0, x1), (9, 0), (0, x3), (0, x4), (9, 0), (0, v16), (0, x7), (0, x8), (0, x9), (1, v9), (9, 0), (0, v15), (0, v17), (0, v19)] _
    refine ev_iload dX10_firstWrong_148 rfl ?_
    refine ev_iload dX10_firstWrong_150 rfl ?_
    refine ev_iadd dX10_firstWrong_152 ?_
    refine ev_istoreG dX10_firstWrong_153 h rfl (by decide) (fun v20 h => ?_)
    show Ev _ _ _ _ 155 _ _ _ [(2, (0 : Int)), (0, x1), (9, 0), (0, x3), (0, x4), (9, 0), (0, v16), (0, x7), (0, v20), (0, x9), (1, v9), (9, 0), (0, v15), (0, v17), (0, v19)] _
    refine ev_iload dX10_firstWrong_155 rfl ?_
    refine ev_bipush dX10_firstWrong_157 (by decide) (by decide) ?_
    refine ev_icmp_gt (tgt := 174) dX10_firstWrong_159 rfl h (fun cb h => ?_) (fun cb h => ?_)
    · obtain rfl := Option.some.inj h
      exact ev_sub (L2 := [(9, 0), (9, 0), (9, 0), (9, 0), (9, 0), (9, 0), (9, 0), (9, 0), (9, 0), (0, x9), (9, 0), (9, 0), (9, 0), (9, 0), (9, 0)]) K ⟨.inl rfl, .inl rfl, .inl rfl, .inl rfl, .inl rfl, .inl rfl, .inl rfl, .inl rfl, .inl rfl, .inr rfl, .inl rfl, .inl rfl, .inl rfl, .inl rfl, .inl rfl, trivial⟩
    refine ev_iload dX10_firstWrong_162 rfl ?_
    refine ev_aload_n dX10_firstWrong_164 rfl (by decide) ?_
    refine ev_getf (j := 0) (t := 2) (x := (1 : Int)) dX10_firstWrong_165 cf_X10 wf_X10_12 sp0 (by decide) (by decide) rfl (by decide) (rp0_0 _) ?_
    refine ev_getf (j := 11) (t := 0) (x := (σ (1 : Int) 11)) dX10_firstWrong_168 cf_X0 wf_X10_209 sp1 (by decide) (by decide) rfl (by decide) rfl ?_
    refine ev_icmp_le (tgt := 177) dX10_firstWrong_171 rfl h (fun cb h => ?_) (fun cb h => ?_)
    · refine ev_iload dX10_firstWrong_177 rfl ?_
      refine ev_aload_n dX10_firstWrong_179 rfl (by decide) ?_
      refine ev_getf (j := 0) (t := 2) (x := (1 : Int)) dX10_firstWrong_180 cf_X10 wf_X10_12 sp0 (by decide) (by decide) rfl (by decide) (rp0_0 _) ?_
      refine ev_iload_n dX10_firstWrong_183 rfl ?_
      obtain ⟨v21, hc22, h⟩ := bind_of h
      refine ev_invV_v (k := (1 : Int)) (av := [(0, x1)]) (st := [(0, v19)]) (v := (0, v21)) (τ := σ) dX10_firstWrong_184 ml_X10_240 mv_X0_restFor (T := TX0) (ci := 0) rfl sp1 (by decide) (by decide) rfl ⟨Nat.le_of_ble_eq_true rfl, Nat.le_of_ble_eq_true rfl⟩ (Nat.le_of_ble_eq_true rfl) (c_X0_restFor hB1 hc22) ?_
      refine ev_iadd dX10_firstWrong_187 ?_
      refine ev_istoreG dX10_firstWrong_188 h rfl (by decide) (fun v23 h => ?_)
      show Ev _ _ _ _ 190 _ _ _ [(2, (0 : Int)), (0, x1), (9, 0), (0, x3), (0, x4), (9, 0), (0, v16), (0, v23), (0, v20), (0, x9), (1, v9), (9, 0), (0, v15), (0, v17), (0, v19)] _
      refine ev_iincG dX10_firstWrong_190 rfl h rfl (fun v24 h => ?_)
      show Ev _ _ _ _ 193 _ _ _ [(2, (0 : Int)), (0, x1), (9, 0), (0, x3), (0, x4), (9, 0), (0, v16), (0, v23), (0, v20), (0, v24), (1, v9), (9, 0), (0, v15), (0, v17), (0, v19)] _
      refine ev_goto (tgt := 55) dX10_firstWrong_193 rfl ?_
      obtain rfl := Option.some.inj h
      exact ev_sub (L2 := [(2, (0 : Int)), (0, x1), (9, 0), (0, x3), (0, x4), (9, 0), (0, v16), (0, v23), (0, v20), (0, v24), (9, 0), (9, 0), (9, 0), (9, 0), (9, 0)]) K ⟨.inr rfl, .inr rfl, .inl rfl, .inr rfl, .inr rfl, .inl rfl, .inr rfl, .inr rfl, .inr rfl, .inr rfl, .inl rfl, .inl rfl, .inl rfl, .inl rfl, .inl rfl, trivial⟩
    obtain rfl := Option.some.inj h
    exact ev_sub (L2 := [(9, 0), (9, 0), (9, 0), (9, 0), (9, 0), (9, 0), (9, 0), (9, 0), (9, 0), (0, x9), (9, 0), (9, 0), (9, 0), (9, 0), (9, 0)]) K ⟨.inl rfl, .inl rfl, .inl rfl, .inl rfl, .inl rfl, .inl rfl, .inl rfl, .inl rfl, .inl rfl, .inr rfl, .inl rfl, .inl rfl, .inl rfl, .inl rfl, .inl rfl, trivial⟩
  obtain rfl := Option.some.inj h
  exact ev_sub (L2 := [(9, 0), (9, 0), (9, 0), (9, 0), (9, 0), (9, 0), (9, 0), (9, 0), (9, 0), (0, x9), (9, 0), (9, 0), (9, 0), (9, 0), (9, 0)]) K ⟨.inl rfl, .inl rfl, .inl rfl, .inl rfl, .inl rfl, .inl rfl, .inl rfl, .inl rfl, .inl rfl, .inr rfl, .inl rfl, .inl rfl, .inl rfl, .inl rfl, .inl rfl, trivial⟩
set_option maxHeartbeats 4000000 in
set_option maxRecDepth 20000 in
theorem e_X10_firstWrong_55 (σ : Mem) (x1 x3 x4 x6 x7 x8 x9 : Int)  {q : (Int × Mem)} (h : f_X10_firstWrong_55 σ x1 x3 x4 x6 x7 x8 x9 = some q) : Ev M_X10_firstWrong 218 218 (some (0, q.1), rho, q.2) 55 218 rho σ [(2, (0 : Int)), (0, x1), (9, 0), (0, x3), (0, x4), (9, 0), (0, x6), (0, x7), (0, x8), (0, x9), (9, 0), (9, 0), (9, 0), (9, 0), (9, 0)] [] := by
  unfold f_X10_firstWrong_55 at h
  obtain ⟨e, hl, h⟩ := bind_of h
  refine loop_ev (K := K_X10_firstWrong_55 σ x1 x3 x4 (some (0, q.1), rho, q.2)) (b_X10_firstWrong_55 σ x1 x3 x4) FU (x6, x7, x8, x9) e hl ?_
  rcases e with e | e
  · show Ev M_X10_firstWrong 218 218 _ 97 218 rho σ [(9, 0), (9, 0), (9, 0), (9, 0), (9, 0), (9, 0), (9, 0), (9, 0), (9, 0), (0, e), (9, 0), (9, 0), (9, 0), (9, 0), (9, 0)] []
    replace h : some (e, σ) = some q := h
    refine ev_iload dX10_firstWrong_97 rfl ?_
    obtain rfl := Option.some.inj h
    dsimp only
    exact ev_iret dX10_firstWrong_99 rfl rfl
  rcases e with e | e
  · show Ev M_X10_firstWrong 218 218 _ 174 218 rho σ [(9, 0), (9, 0), (9, 0), (9, 0), (9, 0), (9, 0), (9, 0), (9, 0), (9, 0), (0, e), (9, 0), (9, 0), (9, 0), (9, 0), (9, 0)] []
    replace h : some (e, σ) = some q := h
    refine ev_iload dX10_firstWrong_174 rfl ?_
    obtain rfl := Option.some.inj h
    dsimp only
    exact ev_iret dX10_firstWrong_176 rfl rfl
  · show Ev M_X10_firstWrong 218 218 _ 196 218 rho σ [(9, 0), (9, 0), (9, 0), (9, 0), (9, 0), (9, 0), (9, 0), (9, 0), (9, 0), (9, 0), (9, 0), (9, 0), (9, 0), (9, 0), (9, 0)] []
    replace h : some ((-1 : Int), σ) = some q := h
    refine ev_iconst dX10_firstWrong_196 (by decide) ?_
    obtain rfl := Option.some.inj h
    dsimp only
    exact ev_iret dX10_firstWrong_197 rfl rfl
set_option maxHeartbeats 4000000 in
set_option maxRecDepth 20000 in
theorem c_X10_firstWrong {σ : Mem} {x1 x2 x3 x4 : Int}  {q : (Int × Mem)} (h : f_X10_firstWrong σ x1 x2 x3 x4 = some q) : Ms yX10_firstWrong M_X10_firstWrong 218 218 [(2, (0 : Int)), (0, x1), (0, x2), (0, x3), (0, x4)] rho σ (some (0, q.1), rho, q.2) := by
  refine Ms.of 10 (by decide +kernel) rfl (fun z => absurd z (by decide)) (fun _ _ _ => trivial) rfl rfl ?_
  unfold f_X10_firstWrong at h
  show Ev M_X10_firstWrong 218 218 _ 0 218 rho σ [(2, (0 : Int)), (0, x1), (0, x2), (0, x3), (0, x4), (9, 0), (9, 0), (9, 0), (9, 0), (9, 0), (9, 0), (9, 0), (9, 0), (9, 0), (9, 0)] []
  refine ev_aload_n dX10_firstWrong_0 rfl (by decide) ?_
  refine ev_getf (j := 8) (t := 2) (x := (43 : Int)) dX10_firstWrong_1 cf_X10 wf_X10_50 sp0 (by decide) (by decide) rfl (by decide) (rp0_8 _) ?_
  refine ev_aload_n dX10_firstWrong_4 rfl (by decide) ?_
  refine ev_getf (j := 0) (t := 2) (x := (1 : Int)) dX10_firstWrong_5 cf_X10 wf_X10_12 sp0 (by decide) (by decide) rfl (by decide) (rp0_0 _) ?_
  refine ev_iload_n dX10_firstWrong_8 rfl ?_
  obtain ⟨v1, hc2, h⟩ := bind_of h
  refine ev_invV_v (k := (43 : Int)) (av := [(2, (1 : Int)), (0, x1)]) (st := []) (v := (2, v1.1)) (τ := v1.2) dX10_firstWrong_9 ml_X10_243 mv_X9_of (T := TX9) (ci := 8) rfl sp43 (by decide) (by decide) rfl ⟨Nat.le_of_ble_eq_true rfl, Nat.le_of_ble_eq_true rfl⟩ (Nat.le_of_ble_eq_true rfl) (c_X9_of hc2) ?_
  have hw3 := w_X9_of hc2
  refine ev_astore dX10_firstWrong_12 rfl (by decide) (pW hw3).1 ?_
  show Ev _ _ _ _ 14 _ _ _ [(2, (0 : Int)), (0, x1), (0, x2), (0, x3), (0, x4), (2, v1.1), (9, 0), (9, 0), (9, 0), (9, 0), (9, 0), (9, 0), (9, 0), (9, 0), (9, 0)] _
  refine ev_aload_n dX10_firstWrong_14 rfl (by decide) ?_
  refine ev_getf (j := 0) (t := 2) (x := (1 : Int)) dX10_firstWrong_15 cf_X10 wf_X10_12 sp0 (by decide) (by decide) rfl (by decide) (rp0_0 _) ?_
  refine ev_getf (j := 6) (t := 2) (x := (8 : Int)) dX10_firstWrong_18 cf_X0 wf_X10_237 sp1 (by decide) (by decide) rfl (by decide) (rp1_6 _) ?_
  refine ev_iload_n dX10_firstWrong_21 rfl ?_
  show Ev _ _ _ _ 22 _ _ _ _ _
  refine ev_iald dX10_firstWrong_22 sp8 (by decide) (by decide) h (fun h => ?_)
  refine ev_aload_n dX10_firstWrong_23 rfl (by decide) ?_
  refine ev_getf (j := 0) (t := 2) (x := (1 : Int)) dX10_firstWrong_24 cf_X10 wf_X10_12 sp0 (by decide) (by decide) rfl (by decide) (rp0_0 _) ?_
  refine ev_iload_n dX10_firstWrong_27 rfl ?_
  obtain ⟨v4, hc5, h⟩ := bind_of h
  refine ev_invV_v (k := (1 : Int)) (av := [(0, x2)]) (st := [(0, (v1.2 (8 : Int) x1))]) (v := (0, v4)) (τ := v1.2) dX10_firstWrong_28 ml_X10_435 mv_X0_papersOf (T := TX0) (ci := 0) rfl sp1 (by decide) (by decide) rfl ⟨Nat.le_of_ble_eq_true rfl, Nat.le_of_ble_eq_true rfl⟩ (Nat.le_of_ble_eq_true rfl) (c_X0_papersOf hB1 hc5) ?_
  refine ev_iand dX10_firstWrong_31 ?_
  refine ev_istoreG dX10_firstWrong_32 h rfl (by decide) (fun v6 h => ?_)
  show Ev _ _ _ _ 34 _ _ _ [(2, (0 : Int)), (0, x1), (0, x2), (0, x3), (0, x4), (2, v1.1), (0, v6), (9, 0), (9, 0), (9, 0), (9, 0), (9, 0), (9, 0), (9, 0), (9, 0)] _
  refine ev_aload dX10_firstWrong_34 rfl (pW hw3).1 ?_
  refine ev_getf (j := 2) (t := 2) (x := (v1.1 + 3)) dX10_firstWrong_36 cf_X8 wf_X10_282 (sW hw3) (pW hw3).1 (pW hw3).2 rfl (by decide) (rW2 _ hw3) ?_
  refine ev_iload_n dX10_firstWrong_39 rfl ?_
  refine ev_iald dX10_firstWrong_40 (sW2 hw3) (pW2 hw3).1 (pW2 hw3).2 h (fun h => ?_)
  refine ev_istoreG dX10_firstWrong_41 h rfl (by decide) (fun v7 h => ?_)
  show Ev _ _ _ _ 43 _ _ _ [(2, (0 : Int)), (0, x1), (0, x2), (0, x3), (0, x4), (2, v1.1), (0, v6), (0, v7), (9, 0), (9, 0), (9, 0), (9, 0), (9, 0), (9, 0), (9, 0)] _
  show Ev _ _ _ _ 43 _ _ _ _ _
  refine ev_aload dX10_firstWrong_43 rfl (pW hw3).1 ?_
  refine ev_getf (j := 3) (t := 2) (x := (v1.1 + 4)) dX10_firstWrong_45 cf_X8 wf_X10_285 (sW hw3) (pW hw3).1 (pW hw3).2 rfl (by decide) (rW3 _ hw3) ?_
  refine ev_iload_n dX10_firstWrong_48 rfl ?_
  refine ev_iald dX10_firstWrong_49 (sW3 hw3) (pW3 hw3).1 (pW3 hw3).2 h (fun h => ?_)
  refine ev_istoreG dX10_firstWrong_50 h rfl (by decide) (fun v8 h => ?_)
  show Ev _ _ _ _ 52 _ _ _ [(2, (0 : Int)), (0, x1), (0, x2), (0, x3), (0, x4), (2, v1.1), (0, v6), (0, v7), (0, v8), (9, 0), (9, 0), (9, 0), (9, 0), (9, 0), (9, 0)] _
  refine ev_iconst dX10_firstWrong_52 (by decide) ?_
  refine ev_istore dX10_firstWrong_53 rfl (by decide) ?_
  show Ev _ _ _ _ 55 _ _ _ [(2, (0 : Int)), (0, x1), (0, x2), (0, x3), (0, x4), (2, v1.1), (0, v6), (0, v7), (0, v8), (0, (0 : Int)), (9, 0), (9, 0), (9, 0), (9, 0), (9, 0)] _
  exact ev_sub (L2 := [(2, (0 : Int)), (0, x1), (9, 0), (0, x3), (0, x4), (9, 0), (0, v6), (0, v7), (0, v8), (0, (0 : Int)), (9, 0), (9, 0), (9, 0), (9, 0), (9, 0)]) (e_X10_firstWrong_55 v1.2 x1 x3 x4 v6 v7 v8 (0 : Int) h) ⟨.inr rfl, .inr rfl, .inl rfl, .inr rfl, .inr rfl, .inl rfl, .inr rfl, .inr rfl, .inr rfl, .inr rfl, .inl rfl, .inl rfl, .inl rfl, .inl rfl, .inl rfl, trivial⟩
set_option maxHeartbeats 4000000 in
set_option maxRecDepth 20000 in
theorem e_X10_judge_33 (σ : Mem)  {q : (Int × Mem)} (h : f_X10_judge_33 σ  = some q) : Ev M_X10_judge 218 218 (some (0, q.1), rho, q.2) 33 218 rho σ [(2, (0 : Int)), (9, 0), (9, 0), (9, 0), (9, 0), (9, 0)] [] := by
  unfold f_X10_judge_33 at h
  refine ev_aload_n dX10_judge_33 rfl (by decide) ?_
  refine ev_bipush dX10_judge_34 (by decide) (by decide) ?_
  obtain ⟨v19, hc20, h⟩ := bind_of h
  refine ev_invV_v (k := (0 : Int)) (av := [(0, (-52 : Int))]) (st := []) (v := (0, v19.1)) (τ := v19.2) dX10_judge_36 ml_X10_88 mv_X10_refuse (T := TX10) (ci := 9) rfl sp0 (by decide) (by decide) rfl ⟨Nat.le_of_ble_eq_true rfl, Nat.le_of_ble_eq_true rfl⟩ (Nat.le_of_ble_eq_true rfl) (c_X10_refuse hc20) ?_
  obtain rfl := Option.some.inj h
  dsimp only
  exact ev_iret dX10_judge_39 rfl rfl
set_option maxHeartbeats 4000000 in
set_option maxRecDepth 20000 in
theorem c_X10_judge {σ : Mem} {x1 x2 x3 x4 : Int}  {q : (Int × Mem)} (h : f_X10_judge σ x1 x2 x3 x4 = some q) : Ms yX10_judge M_X10_judge 218 218 [(2, (0 : Int)), (0, x1), (0, x2), (0, x3), (0, x4)] rho σ (some (0, q.1), rho, q.2) := by
  refine Ms.of 1 (by decide +kernel) rfl (fun z => absurd z (by decide)) (fun _ _ _ => trivial) rfl rfl ?_
  unfold f_X10_judge at h
  show Ev M_X10_judge 218 218 _ 0 218 rho σ [(2, (0 : Int)), (0, x1), (0, x2), (0, x3), (0, x4), (9, 0)] []
  refine ev_aload_n dX10_judge_0 rfl (by decide) ?_
  refine ev_getf (j := 0) (t := 2) (x := (1 : Int)) dX10_judge_1 cf_X10 wf_X10_12 sp0 (by decide) (by decide) rfl (by decide) (rp0_0 _) ?_
  refine ev_iload_n dX10_judge_4 rfl ?_
  obtain ⟨v1, hc2, h⟩ := bind_of h
  refine ev_invV_v (k := (1 : Int)) (av := [(0, x1)]) (st := []) (v := (0, v1)) (τ := σ) dX10_judge_5 ml_X10_122 mv_X0_hasCand (T := TX0) (ci := 0) rfl sp1 (by decide) (by decide) rfl ⟨Nat.le_of_ble_eq_true rfl, Nat.le_of_ble_eq_true rfl⟩ (Nat.le_of_ble_eq_true rfl) (c_X0_hasCand hB1 hc2) ?_
  refine ev_if_eq (tgt := 33) dX10_judge_8 rfl h (fun cb h => ?_) (fun cb h => ?_)
  · exact ev_sub (L2 := [(2, (0 : Int)), (9, 0), (9, 0), (9, 0), (9, 0), (9, 0)]) (e_X10_judge_33 σ h) ⟨.inr rfl, .inl rfl, .inl rfl, .inl rfl, .inl rfl, .inl rfl, trivial⟩
  refine ev_iload_n dX10_judge_11 rfl ?_
  obtain ⟨v3, hc4, h⟩ := bind_of h
  refine ev_invS_v (av := [(0, x2)]) (st := []) (v := (0, v3)) (τ := σ) dX10_judge_12 ml_X10_150 mt_X10_isDay rfl ⟨Nat.le_of_ble_eq_true rfl, Nat.le_of_ble_eq_true rfl⟩ (Nat.le_of_ble_eq_true rfl) (c_X10_isDay hc4) ?_
  refine ev_if_eq (tgt := 33) dX10_judge_15 rfl h (fun cb h => ?_) (fun cb h => ?_)
  · exact ev_sub (L2 := [(2, (0 : Int)), (9, 0), (9, 0), (9, 0), (9, 0), (9, 0)]) (e_X10_judge_33 σ h) ⟨.inr rfl, .inl rfl, .inl rfl, .inl rfl, .inl rfl, .inl rfl, trivial⟩
  refine ev_iload_n dX10_judge_18 rfl ?_
  obtain ⟨v5, hc6, h⟩ := bind_of h
  refine ev_invS_v (av := [(0, x3)]) (st := []) (v := (0, v5)) (τ := σ) dX10_judge_19 ml_X10_81 mt_X6_isShelf rfl ⟨Nat.le_of_ble_eq_true rfl, Nat.le_of_ble_eq_true rfl⟩ (Nat.le_of_ble_eq_true rfl) (c_X6_isShelf hc6) ?_
  refine ev_if_eq (tgt := 33) dX10_judge_22 rfl h (fun cb h => ?_) (fun cb h => ?_)
  · exact ev_sub (L2 := [(2, (0 : Int)), (9, 0), (9, 0), (9, 0), (9, 0), (9, 0)]) (e_X10_judge_33 σ h) ⟨.inr rfl, .inl rfl, .inl rfl, .inl rfl, .inl rfl, .inl rfl, trivial⟩
  refine ev_iload dX10_judge_25 rfl ?_
  obtain ⟨v7, hc8, h⟩ := bind_of h
  refine ev_invS_v (av := [(0, x4)]) (st := []) (v := (0, v7)) (τ := σ) dX10_judge_27 ml_X10_384 mt_X10_isTold rfl ⟨Nat.le_of_ble_eq_true rfl, Nat.le_of_ble_eq_true rfl⟩ (Nat.le_of_ble_eq_true rfl) (c_X10_isTold hc8) ?_
  refine ev_if_ne (tgt := 40) dX10_judge_30 rfl h (fun cb h => ?_) (fun cb h => ?_)
  · refine ev_aload_n dX10_judge_40 rfl (by decide) ?_
    refine ev_getf (j := 5) (t := 2) (x := (30 : Int)) dX10_judge_41 cf_X10 wf_X10_32 sp0 (by decide) (by decide) rfl (by decide) (rp0_5 _) ?_
    refine ev_iload_n dX10_judge_44 rfl ?_
    obtain ⟨v9, hc10, h⟩ := bind_of h
    refine ev_invV_v (k := (30 : Int)) (av := [(0, x3)]) (st := []) (v := (0, v9)) (τ := σ) dX10_judge_45 ml_X10_96 mv_X6_rowTrouble (T := TX6) (ci := 5) rfl sp30 (by decide) (by decide) rfl ⟨Nat.le_of_ble_eq_true rfl, Nat.le_of_ble_eq_true rfl⟩ (Nat.le_of_ble_eq_true rfl) (c_X6_rowTrouble hc10) ?_
    refine ev_istore dX10_judge_48 rfl (by decide) ?_
    show Ev _ _ _ _ 50 _ _ _ [(2, (0 : Int)), (0, x1), (0, x2), (0, x3), (0, x4), (0, v9)] _
    refine ev_iload dX10_judge_50 rfl ?_
    refine ev_if_eq (tgt := 62) dX10_judge_52 rfl h (fun cb h => ?_) (fun cb h => ?_)
    · refine ev_aload_n dX10_judge_62 rfl (by decide) ?_
      refine ev_getf (j := 5) (t := 2) (x := (30 : Int)) dX10_judge_63 cf_X10 wf_X10_32 sp0 (by decide) (by decide) rfl (by decide) (rp0_5 _) ?_
      refine ev_iload_n dX10_judge_66 rfl ?_
      refine ev_iconst dX10_judge_67 (by decide) ?_
      refine ev_iload dX10_judge_68 rfl ?_
      obtain ⟨v11, hc12, h⟩ := bind_of h
      refine ev_invV_v (k := (30 : Int)) (av := [(0, x3), (0, (0 : Int)), (0, x4)]) (st := []) (v := (0, v11)) (τ := σ) dX10_judge_70 ml_X10_110 mv_X6_hasElements (T := TX6) (ci := 5) rfl sp30 (by decide) (by decide) rfl ⟨Nat.le_of_ble_eq_true rfl, Nat.le_of_ble_eq_true rfl⟩ (Nat.le_of_ble_eq_true rfl) (c_X6_hasElements hc12) ?_
      refine ev_if_ne (tgt := 83) dX10_judge_73 rfl h (fun cb h => ?_) (fun cb h => ?_)
      · refine ev_aload_n dX10_judge_83 rfl (by decide) ?_
        refine ev_iload_n dX10_judge_84 rfl ?_
        refine ev_iload_n dX10_judge_85 rfl ?_
        refine ev_iload_n dX10_judge_86 rfl ?_
        refine ev_iload dX10_judge_87 rfl ?_
        obtain ⟨v13, hc14, h⟩ := bind_of h
        refine ev_invV_v (k := (0 : Int)) (av := [(0, x1), (0, x2), (0, x3), (0, x4)]) (st := []) (v := (0, v13.1)) (τ := v13.2) dX10_judge_89 ml_X10_391 mv_X10_firstWrong (T := TX10) (ci := 9) rfl sp0 (by decide) (by decide) rfl ⟨Nat.le_of_ble_eq_true rfl, Nat.le_of_ble_eq_true rfl⟩ (Nat.le_of_ble_eq_true rfl) (c_X10_firstWrong hc14) ?_
        obtain rfl := Option.some.inj h
        dsimp only
        exact ev_iret dX10_judge_92 rfl rfl
      refine ev_aload_n dX10_judge_76 rfl (by decide) ?_
      refine ev_bipush dX10_judge_77 (by decide) (by decide) ?_
      obtain ⟨v15, hc16, h⟩ := bind_of h
      refine ev_invV_v (k := (0 : Int)) (av := [(0, (-52 : Int))]) (st := []) (v := (0, v15.1)) (τ := v15.2) dX10_judge_79 ml_X10_88 mv_X10_refuse (T := TX10) (ci := 9) rfl sp0 (by decide) (by decide) rfl ⟨Nat.le_of_ble_eq_true rfl, Nat.le_of_ble_eq_true rfl⟩ (Nat.le_of_ble_eq_true rfl) (c_X10_refuse hc16) ?_
      obtain rfl := Option.some.inj h
      dsimp only
      exact ev_iret dX10_judge_82 rfl rfl
    refine ev_aload_n dX10_judge_55 rfl (by decide) ?_
    refine ev_iload dX10_judge_56 rfl ?_
    obtain ⟨v17, hc18, h⟩ := bind_of h
    refine ev_invV_v (k := (0 : Int)) (av := [(0, v9)]) (st := []) (v := (0, v17.1)) (τ := v17.2) dX10_judge_58 ml_X10_88 mv_X10_refuse (T := TX10) (ci := 9) rfl sp0 (by decide) (by decide) rfl ⟨Nat.le_of_ble_eq_true rfl, Nat.le_of_ble_eq_true rfl⟩ (Nat.le_of_ble_eq_true rfl) (c_X10_refuse hc18) ?_
    obtain rfl := Option.some.inj h
    dsimp only
    exact ev_iret dX10_judge_61 rfl rfl
  exact ev_sub (L2 := [(2, (0 : Int)), (9, 0), (9, 0), (9, 0), (9, 0), (9, 0)]) (e_X10_judge_33 σ h) ⟨.inr rfl, .inl rfl, .inl rfl, .inl rfl, .inl rfl, .inl rfl, trivial⟩
def K_X10_together_39 (x1 x2 x3 : Int) (r : Option V × Mem × Mem) : (Int × Int × Mem) ⊕ ((Int × Mem)) → Prop := Sum.elim (fun a => Ev M_X10_together 218 218 r 39 218 rho a.2.2 [(2, (0 : Int)), (0, x1), (0, x2), (0, x3), (0, a.1), (0, a.2.1)] []) (fun e => Ev M_X10_together 218 218 r 88 218 rho e.2 [(9, 0), (9, 0), (9, 0), (9, 0), (0, e.1), (9, 0)] [])
set_option maxHeartbeats 4000000 in
set_option maxRecDepth 20000 in
theorem e_X10_together_26 (σ : Mem)  {q : (Int × Mem)} (h : f_X10_together_26 σ  = some q) : Ev M_X10_together 218 218 (some (0, q.1), rho, q.2) 26 218 rho σ [(2, (0 : Int)), (9, 0), (9, 0), (9, 0), (9, 0), (9, 0)] [] := by
  unfold f_X10_together_26 at h
  refine ev_aload_n dX10_together_26 rfl (by decide) ?_
  refine ev_bipush dX10_together_27 (by decide) (by decide) ?_
  obtain ⟨v7, hc8, h⟩ := bind_of h
  refine ev_invV_v (k := (0 : Int)) (av := [(0, (-52 : Int))]) (st := []) (v := (0, v7.1)) (τ := v7.2) dX10_together_29 ml_X10_88 mv_X10_refuse (T := TX10) (ci := 9) rfl sp0 (by decide) (by decide) rfl ⟨Nat.le_of_ble_eq_true rfl, Nat.le_of_ble_eq_true rfl⟩ (Nat.le_of_ble_eq_true rfl) (c_X10_refuse hc8) ?_
  obtain rfl := Option.some.inj h
  dsimp only
  exact ev_iret dX10_together_32 rfl rfl
set_option maxHeartbeats 4000000 in
set_option maxRecDepth 20000 in
theorem e_X10_together_82 (σ : Mem) (x1 x2 x3 x4 x5 : Int)  {q : ((Int × Int × Mem) ⊕ ((Int × Mem)))} (h : f_X10_together_82 σ x1 x2 x3 x4 x5 = some q) {r : Option V × Mem × Mem} (K : K_X10_together_39 x1 x2 x3 r q) : Ev M_X10_together 218 218 r 82 218 rho σ [(2, (0 : Int)), (0, x1), (0, x2), (0, x3), (0, x4), (0, x5)] [] := by
  unfold f_X10_together_82 at h
  refine ev_iincG dX10_together_82 rfl h rfl (fun v15 h => ?_)
  show Ev _ _ _ _ 85 _ _ _ [(2, (0 : Int)), (0, x1), (0, x2), (0, x3), (0, x4), (0, v15)] _
  refine ev_goto (tgt := 39) dX10_together_85 rfl ?_
  obtain rfl := Option.some.inj h
  exact ev_sub (L2 := [(2, (0 : Int)), (0, x1), (0, x2), (0, x3), (0, x4), (0, v15)]) K ⟨.inr rfl, .inr rfl, .inr rfl, .inr rfl, .inr rfl, .inr rfl, trivial⟩
set_option maxHeartbeats 4000000 in
set_option maxRecDepth 20000 in
theorem b_X10_together_39 (x1 x2 x3 : Int)  {r : Option V × Mem × Mem} : ∀ a x, f_X10_together_39B x1 x2 x3 a = some x → K_X10_together_39 x1 x2 x3 r x → K_X10_together_39 x1 x2 x3 r (.inl a) := by
  intro a x h K
  obtain ⟨x4, x5, σ⟩ := a
  have h : f_X10_together_39C x1 x2 x3 x4 x5 σ = some x := h
  unfold f_X10_together_39C at h
  show Ev M_X10_together 218 218 r 39 218 rho σ [(2, (0 : Int)), (0, x1), (0, x2), (0, x3), (0, x4), (0, x5)] []
  refine ev_iload dX10_together_39 rfl ?_
  refine ev_aload_n dX10_together_41 rfl (by decide) ?_
  refine ev_getf (j := 0) (t := 2) (x := (1 : Int)) dX10_together_42 cf_X10 wf_X10_12 sp0 (by decide) (by decide) rfl (by decide) (rp0_0 _) ?_
  refine ev_getf (j := 9) (t := 0) (x := (σ (1 : Int) 9)) dX10_together_45 cf_X0 wf_X10_174 sp1 (by decide) (by decide) rfl (by decide) rfl ?_
  refine ev_icmp_ge (tgt := 88) dX10_together_48 rfl h (fun cb h => ?_) (fun cb h => ?_)
  · obtain rfl := Option.some.inj h
    exact ev_sub (L2 := [(9, 0), (9, 0), (9, 0), (9, 0), (0, x4), (9, 0)]) K ⟨.inl rfl, .inl rfl, .inl rfl, .inl rfl, .inr rfl, .inl rfl, trivial⟩
  refine ev_aload_n dX10_together_51 rfl (by decide) ?_
  refine ev_getf (j := 8) (t := 2) (x := (43 : Int)) dX10_together_52 cf_X10 wf_X10_50 sp0 (by decide) (by decide) rfl (by decide) (rp0_8 _) ?_
  refine ev_aload_n dX10_together_55 rfl (by decide) ?_
  refine ev_getf (j := 0) (t := 2) (x := (1 : Int)) dX10_together_56 cf_X10 wf_X10_12 sp0 (by decide) (by decide) rfl (by decide) (rp0_0 _) ?_
  refine ev_iload dX10_together_59 rfl ?_
  obtain ⟨v9, hc10, h⟩ := bind_of h
  refine ev_invV_v (k := (43 : Int)) (av := [(2, (1 : Int)), (0, x5)]) (st := []) (v := (2, v9.1)) (τ := v9.2) dX10_together_61 ml_X10_243 mv_X9_of (T := TX9) (ci := 8) rfl sp43 (by decide) (by decide) rfl ⟨Nat.le_of_ble_eq_true rfl, Nat.le_of_ble_eq_true rfl⟩ (Nat.le_of_ble_eq_true rfl) (c_X9_of hc10) ?_
  have hw11 := w_X9_of hc10
  refine ev_iload_n dX10_together_64 rfl ?_
  refine ev_iload_n dX10_together_65 rfl ?_
  obtain ⟨v12, hc13, h⟩ := bind_of h
  refine ev_invV_v (k := v9.1) (av := [(0, x2), (0, x3)]) (st := []) (v := (0, v12)) (τ := v9.2) dX10_together_66 ml_X10_304 mv_X8_deed (T := TX8) (ci := 7) rfl (sW hw11) (pW hw11).1 (pW hw11).2 rfl ⟨Nat.le_of_ble_eq_true rfl, Nat.le_of_ble_eq_true rfl⟩ (Nat.le_of_ble_eq_true rfl) (c_X8_deed hw11 hc13) ?_
  refine ev_iload_n dX10_together_69 rfl ?_
  refine ev_icmp_ne (tgt := 82) dX10_together_70 rfl h (fun cb h => ?_) (fun cb h => ?_)
  · exact ev_sub (L2 := [(2, (0 : Int)), (0, x1), (0, x2), (0, x3), (0, x4), (0, x5)]) (e_X10_together_82 v9.2 x1 x2 x3 x4 x5 h K) ⟨.inr rfl, .inr rfl, .inr rfl, .inr rfl, .inr rfl, .inr rfl, trivial⟩
  refine ev_iload dX10_together_73 rfl ?_
  refine ev_iconst dX10_together_75 (by decide) ?_
  refine ev_iload dX10_together_76 rfl ?_
  refine ev_ishl dX10_together_78 ?_
  refine ev_ior dX10_together_79 ?_
  refine ev_istoreG dX10_together_80 h rfl (by decide) (fun v14 h => ?_)
  show Ev _ _ _ _ 82 _ _ _ [(2, (0 : Int)), (0, x1), (0, x2), (0, x3), (0, v14), (0, x5)] _
  exact ev_sub (L2 := [(2, (0 : Int)), (0, x1), (0, x2), (0, x3), (0, v14), (0, x5)]) (e_X10_together_82 v9.2 x1 x2 x3 v14 x5 h K) ⟨.inr rfl, .inr rfl, .inr rfl, .inr rfl, .inr rfl, .inr rfl, trivial⟩
set_option maxHeartbeats 4000000 in
set_option maxRecDepth 20000 in
theorem e_X10_together_39 (σ : Mem) (x1 x2 x3 x4 x5 : Int)  {q : (Int × Mem)} (h : f_X10_together_39 σ x1 x2 x3 x4 x5 = some q) : Ev M_X10_together 218 218 (some (0, q.1), rho, q.2) 39 218 rho σ [(2, (0 : Int)), (0, x1), (0, x2), (0, x3), (0, x4), (0, x5)] [] := by
  unfold f_X10_together_39 at h
  obtain ⟨e, hl, h⟩ := bind_of h
  refine loop_ev (K := K_X10_together_39 x1 x2 x3 (some (0, q.1), rho, q.2)) (b_X10_together_39 x1 x2 x3) FU (x4, x5, σ) e hl ?_
  show Ev M_X10_together 218 218 _ 88 218 rho e.2 [(9, 0), (9, 0), (9, 0), (9, 0), (0, e.1), (9, 0)] []
  replace h : some (e.1, e.2) = some q := h
  refine ev_iload dX10_together_88 rfl ?_
  obtain rfl := Option.some.inj h
  dsimp only
  exact ev_iret dX10_together_90 rfl rfl
set_option maxHeartbeats 4000000 in
set_option maxRecDepth 20000 in
theorem c_X10_together {σ : Mem} {x1 x2 x3 : Int}  {q : (Int × Mem)} (h : f_X10_together σ x1 x2 x3 = some q) : Ms yX10_together M_X10_together 218 218 [(2, (0 : Int)), (0, x1), (0, x2), (0, x3)] rho σ (some (0, q.1), rho, q.2) := by
  refine Ms.of 2 (by decide +kernel) rfl (fun z => absurd z (by decide)) (fun _ _ _ => trivial) rfl rfl ?_
  unfold f_X10_together at h
  show Ev M_X10_together 218 218 _ 0 218 rho σ [(2, (0 : Int)), (0, x1), (0, x2), (0, x3), (9, 0), (9, 0)] []
  refine ev_aload_n dX10_together_0 rfl (by decide) ?_
  refine ev_getf (j := 0) (t := 2) (x := (1 : Int)) dX10_together_1 cf_X10 wf_X10_12 sp0 (by decide) (by decide) rfl (by decide) (rp0_0 _) ?_
  refine ev_iload_n dX10_together_4 rfl ?_
  refine ev_i2lk dX10_together_5 ?_
  obtain ⟨v1, hc2, h⟩ := bind_of h
  refine ev_invV_v (k := (1 : Int)) (av := [(1, x1)]) (st := []) (v := (0, v1)) (τ := σ) dX10_together_6 ml_X10_164 mv_X0_hasPaper (T := TX0) (ci := 0) rfl sp1 (by decide) (by decide) rfl ⟨Nat.le_of_ble_eq_true rfl, Nat.le_of_ble_eq_true rfl⟩ (Nat.le_of_ble_eq_true rfl) (c_X0_hasPaper hB1 hc2) ?_
  refine ev_if_eq (tgt := 26) dX10_together_9 rfl h (fun cb h => ?_) (fun cb h => ?_)
  · exact ev_sub (L2 := [(2, (0 : Int)), (9, 0), (9, 0), (9, 0), (9, 0), (9, 0)]) (e_X10_together_26 σ h) ⟨.inr rfl, .inl rfl, .inl rfl, .inl rfl, .inl rfl, .inl rfl, trivial⟩
  refine ev_iload_n dX10_together_12 rfl ?_
  obtain ⟨v3, hc4, h⟩ := bind_of h
  refine ev_invS_v (av := [(0, x2)]) (st := []) (v := (0, v3)) (τ := σ) dX10_together_13 ml_X10_150 mt_X10_isDay rfl ⟨Nat.le_of_ble_eq_true rfl, Nat.le_of_ble_eq_true rfl⟩ (Nat.le_of_ble_eq_true rfl) (c_X10_isDay hc4) ?_
  refine ev_if_eq (tgt := 26) dX10_together_16 rfl h (fun cb h => ?_) (fun cb h => ?_)
  · exact ev_sub (L2 := [(2, (0 : Int)), (9, 0), (9, 0), (9, 0), (9, 0), (9, 0)]) (e_X10_together_26 σ h) ⟨.inr rfl, .inl rfl, .inl rfl, .inl rfl, .inl rfl, .inl rfl, trivial⟩
  refine ev_iload_n dX10_together_19 rfl ?_
  obtain ⟨v5, hc6, h⟩ := bind_of h
  refine ev_invS_v (av := [(0, x3)]) (st := []) (v := (0, v5)) (τ := σ) dX10_together_20 ml_X10_153 mt_X10_isSlot rfl ⟨Nat.le_of_ble_eq_true rfl, Nat.le_of_ble_eq_true rfl⟩ (Nat.le_of_ble_eq_true rfl) (c_X10_isSlot hc6) ?_
  refine ev_if_ne (tgt := 33) dX10_together_23 rfl h (fun cb h => ?_) (fun cb h => ?_)
  · refine ev_iconst dX10_together_33 (by decide) ?_
    refine ev_istore dX10_together_34 rfl (by decide) ?_
    show Ev _ _ _ _ 36 _ _ _ [(2, (0 : Int)), (0, x1), (0, x2), (0, x3), (0, (0 : Int)), (9, 0)] _
    refine ev_iconst dX10_together_36 (by decide) ?_
    refine ev_istore dX10_together_37 rfl (by decide) ?_
    show Ev _ _ _ _ 39 _ _ _ [(2, (0 : Int)), (0, x1), (0, x2), (0, x3), (0, (0 : Int)), (0, (0 : Int))] _
    exact ev_sub (L2 := [(2, (0 : Int)), (0, x1), (0, x2), (0, x3), (0, (0 : Int)), (0, (0 : Int))]) (e_X10_together_39 σ x1 x2 x3 (0 : Int) (0 : Int) h) ⟨.inr rfl, .inr rfl, .inr rfl, .inr rfl, .inr rfl, .inr rfl, trivial⟩
  exact ev_sub (L2 := [(2, (0 : Int)), (9, 0), (9, 0), (9, 0), (9, 0), (9, 0)]) (e_X10_together_26 σ h) ⟨.inr rfl, .inl rfl, .inl rfl, .inl rfl, .inl rfl, .inl rfl, trivial⟩
def K_X10_changes_49 (x1 : Int) (r : Option V × Mem × Mem) : (Int × Int × Mem) ⊕ ((Int × Mem)) → Prop := Sum.elim (fun a => Ev M_X10_changes 218 218 r 49 218 rho a.2.2 [(2, (0 : Int)), (0, x1), (0, a.1), (0, a.2.1), (9, 0), (9, 0)] []) (fun e => Ev M_X10_changes 218 218 r 145 218 rho e.2 [(2, (0 : Int)), (9, 0), (0, e.1), (9, 0), (9, 0), (9, 0)] [])
set_option maxHeartbeats 4000000 in
set_option maxRecDepth 20000 in
theorem e_X10_changes_11 (σ : Mem)  {q : (Int × Mem)} (h : f_X10_changes_11 σ  = some q) : Ev M_X10_changes 218 218 (some (0, q.1), rho, q.2) 11 218 rho σ [(2, (0 : Int)), (9, 0), (9, 0), (9, 0), (9, 0), (9, 0)] [] := by
  unfold f_X10_changes_11 at h
  refine ev_aload_n dX10_changes_11 rfl (by decide) ?_
  refine ev_bipush dX10_changes_12 (by decide) (by decide) ?_
  obtain ⟨v1, hc2, h⟩ := bind_of h
  refine ev_invV_v (k := (0 : Int)) (av := [(0, (-52 : Int))]) (st := []) (v := (0, v1.1)) (τ := v1.2) dX10_changes_14 ml_X10_88 mv_X10_refuse (T := TX10) (ci := 9) rfl sp0 (by decide) (by decide) rfl ⟨Nat.le_of_ble_eq_true rfl, Nat.le_of_ble_eq_true rfl⟩ (Nat.le_of_ble_eq_true rfl) (c_X10_refuse hc2) ?_
  obtain rfl := Option.some.inj h
  dsimp only
  exact ev_iret dX10_changes_17 rfl rfl
set_option maxHeartbeats 4000000 in
set_option maxRecDepth 20000 in
theorem e_X10_changes_38 (σ : Mem)  {q : (Int × Mem)} (h : f_X10_changes_38 σ  = some q) : Ev M_X10_changes 218 218 (some (0, q.1), rho, q.2) 38 218 rho σ [(2, (0 : Int)), (9, 0), (9, 0), (9, 0), (9, 0), (9, 0)] [] := by
  unfold f_X10_changes_38 at h
  refine ev_aload_n dX10_changes_38 rfl (by decide) ?_
  refine ev_bipush dX10_changes_39 (by decide) (by decide) ?_
  obtain ⟨v3, hc4, h⟩ := bind_of h
  refine ev_invV_v (k := (0 : Int)) (av := [(0, (-55 : Int))]) (st := []) (v := (0, v3.1)) (τ := v3.2) dX10_changes_41 ml_X10_88 mv_X10_refuse (T := TX10) (ci := 9) rfl sp0 (by decide) (by decide) rfl ⟨Nat.le_of_ble_eq_true rfl, Nat.le_of_ble_eq_true rfl⟩ (Nat.le_of_ble_eq_true rfl) (c_X10_refuse hc4) ?_
  obtain rfl := Option.some.inj h
  dsimp only
  exact ev_iret dX10_changes_44 rfl rfl
set_option maxHeartbeats 4000000 in
set_option maxRecDepth 20000 in
theorem e_X10_changes_139 (σ : Mem) (x1 x2 x3 : Int)  {q : ((Int × Int × Mem) ⊕ ((Int × Mem)))} (h : f_X10_changes_139 σ x1 x2 x3 = some q) {r : Option V × Mem × Mem} (K : K_X10_changes_49 x1 r q) : Ev M_X10_changes 218 218 r 139 218 rho σ [(2, (0 : Int)), (0, x1), (0, x2), (0, x3), (9, 0), (9, 0)] [] := by
  unfold f_X10_changes_139 at h
  refine ev_iincG dX10_changes_139 rfl h rfl (fun v20 h => ?_)
  show Ev _ _ _ _ 142 _ _ _ [(2, (0 : Int)), (0, x1), (0, x2), (0, v20), (9, 0), (9, 0)] _
  refine ev_goto (tgt := 49) dX10_changes_142 rfl ?_
  obtain rfl := Option.some.inj h
  exact ev_sub (L2 := [(2, (0 : Int)), (0, x1), (0, x2), (0, v20), (9, 0), (9, 0)]) K ⟨.inr rfl, .inr rfl, .inr rfl, .inr rfl, .inl rfl, .inl rfl, trivial⟩
set_option maxHeartbeats 4000000 in
set_option maxRecDepth 20000 in
theorem e_X10_changes_145 (σ : Mem) (x2 : Int)  {q : (Int × Mem)} (h : f_X10_changes_145 σ x2 = some q) : Ev M_X10_changes 218 218 (some (0, q.1), rho, q.2) 145 218 rho σ [(2, (0 : Int)), (9, 0), (0, x2), (9, 0), (9, 0), (9, 0)] [] := by
  unfold f_X10_changes_145 at h
  refine ev_aload_n dX10_changes_145 rfl (by decide) ?_
  refine ev_getf (j := 8) (t := 2) (x := (43 : Int)) dX10_changes_146 cf_X10 wf_X10_50 sp0 (by decide) (by decide) rfl (by decide) (rp0_8 _) ?_
  obtain ⟨σ21, hc22, h⟩ := bind_of h
  refine ev_invV_n (k := (43 : Int)) (av := []) (st := []) (τ := σ21) dX10_changes_149 ml_X10_171 mv_X9_forgetAll (T := TX9) (ci := 8) rfl sp43 (by decide) (by decide) rfl ⟨Nat.le_of_ble_eq_true rfl, Nat.le_of_ble_eq_true rfl⟩ (Nat.le_of_ble_eq_true rfl) (c_X9_forgetAll hc22) ?_
  refine ev_iload_n dX10_changes_152 rfl ?_
  obtain rfl := Option.some.inj h
  dsimp only
  exact ev_iret dX10_changes_153 rfl rfl
set_option maxHeartbeats 4000000 in
set_option maxRecDepth 20000 in
theorem b_X10_changes_49 (x1 : Int)  {r : Option V × Mem × Mem} : ∀ a x, f_X10_changes_49B x1 a = some x → K_X10_changes_49 x1 r x → K_X10_changes_49 x1 r (.inl a) := by
  intro a x h K
  obtain ⟨x2, x3, σ⟩ := a
  have h : f_X10_changes_49C x1 x2 x3 σ = some x := h
  unfold f_X10_changes_49C at h
  show Ev M_X10_changes 218 218 r 49 218 rho σ [(2, (0 : Int)), (0, x1), (0, x2), (0, x3), (9, 0), (9, 0)] []
  refine ev_iload_n dX10_changes_49 rfl ?_
  refine ev_iload_n dX10_changes_50 rfl ?_
  refine ev_icmp_ge (tgt := 145) dX10_changes_51 rfl h (fun cb h => ?_) (fun cb h => ?_)
  · obtain rfl := Option.some.inj h
    exact ev_sub (L2 := [(2, (0 : Int)), (9, 0), (0, x2), (9, 0), (9, 0), (9, 0)]) K ⟨.inr rfl, .inl rfl, .inr rfl, .inl rfl, .inl rfl, .inl rfl, trivial⟩
  refine ev_aload_n dX10_changes_54 rfl (by decide) ?_
  refine ev_getf (j := 0) (t := 2) (x := (1 : Int)) dX10_changes_55 cf_X10 wf_X10_12 sp0 (by decide) (by decide) rfl (by decide) (rp0_0 _) ?_
  refine ev_aload_n dX10_changes_58 rfl (by decide) ?_
  refine ev_getf (j := 0) (t := 2) (x := (1 : Int)) dX10_changes_59 cf_X10 wf_X10_12 sp0 (by decide) (by decide) rfl (by decide) (rp0_0 _) ?_
  refine ev_getf (j := 9) (t := 0) (x := (σ (1 : Int) 9)) dX10_changes_62 cf_X0 wf_X10_174 sp1 (by decide) (by decide) rfl (by decide) rfl ?_
  obtain ⟨v5, hc6, h⟩ := bind_of h
  refine ev_invV_v (k := (1 : Int)) (av := [(0, (σ (1 : Int) 9))]) (st := []) (v := (0, v5.1)) (τ := v5.2) dX10_changes_65 ml_X10_394 mv_X0_draw (T := TX0) (ci := 0) rfl sp1 (by decide) (by decide) rfl ⟨Nat.le_of_ble_eq_true rfl, Nat.le_of_ble_eq_true rfl⟩ (Nat.le_of_ble_eq_true rfl) (c_X0_draw hB1 hc6) ?_
  refine ev_istoreG dX10_changes_68 h rfl (by decide) (fun v7 h => ?_)
  show Ev _ _ _ _ 70 _ _ _ [(2, (0 : Int)), (0, x1), (0, x2), (0, x3), (0, v7), (9, 0)] _
  refine ev_aload_n dX10_changes_70 rfl (by decide) ?_
  refine ev_getf (j := 0) (t := 2) (x := (1 : Int)) dX10_changes_71 cf_X10 wf_X10_12 sp0 (by decide) (by decide) rfl (by decide) (rp0_0 _) ?_
  refine ev_aload_n dX10_changes_74 rfl (by decide) ?_
  refine ev_getf (j := 0) (t := 2) (x := (1 : Int)) dX10_changes_75 cf_X10 wf_X10_12 sp0 (by decide) (by decide) rfl (by decide) (rp0_0 _) ?_
  show Ev _ _ _ _ 78 _ _ _ _ _
  refine ev_getf (j := 8) (t := 0) (x := (v5.2 (1 : Int) 8)) dX10_changes_78 cf_X0 wf_X10_156 sp1 (by decide) (by decide) rfl (by decide) rfl ?_
  obtain ⟨v8, hc9, h⟩ := bind_of h
  refine ev_invV_v (k := (1 : Int)) (av := [(0, (v5.2 (1 : Int) 8))]) (st := []) (v := (0, v8.1)) (τ := v8.2) dX10_changes_81 ml_X10_394 mv_X0_draw (T := TX0) (ci := 0) rfl sp1 (by decide) (by decide) rfl ⟨Nat.le_of_ble_eq_true rfl, Nat.le_of_ble_eq_true rfl⟩ (Nat.le_of_ble_eq_true rfl) (c_X0_draw hB1 hc9) ?_
  refine ev_istoreG dX10_changes_84 h rfl (by decide) (fun v10 h => ?_)
  show Ev _ _ _ _ 86 _ _ _ [(2, (0 : Int)), (0, x1), (0, x2), (0, x3), (0, v7), (0, v10)] _
  refine ev_aload_n dX10_changes_86 rfl (by decide) ?_
  refine ev_getf (j := 0) (t := 2) (x := (1 : Int)) dX10_changes_87 cf_X10 wf_X10_12 sp0 (by decide) (by decide) rfl (by decide) (rp0_0 _) ?_
  refine ev_iload dX10_changes_90 rfl ?_
  obtain ⟨v11, hc12, h⟩ := bind_of h
  refine ev_invV_v (k := (1 : Int)) (av := [(0, v7)]) (st := []) (v := (0, v11)) (τ := v8.2) dX10_changes_92 ml_X10_122 mv_X0_hasCand (T := TX0) (ci := 0) rfl sp1 (by decide) (by decide) rfl ⟨Nat.le_of_ble_eq_true rfl, Nat.le_of_ble_eq_true rfl⟩ (Nat.le_of_ble_eq_true rfl) (c_X0_hasCand hB1 hc12) ?_
  refine ev_if_eq (tgt := 139) dX10_changes_95 rfl h (fun cb h => ?_) (fun cb h => ?_)
  · exact ev_sub (L2 := [(2, (0 : Int)), (0, x1), (0, x2), (0, x3), (9, 0), (9, 0)]) (e_X10_changes_139 v8.2 x1 x2 x3 h K) ⟨.inr rfl, .inr rfl, .inr rfl, .inr rfl, .inl rfl, .inl rfl, trivial⟩
  refine ev_aload_n dX10_changes_98 rfl (by decide) ?_
  refine ev_getf (j := 0) (t := 2) (x := (1 : Int)) dX10_changes_99 cf_X10 wf_X10_12 sp0 (by decide) (by decide) rfl (by decide) (rp0_0 _) ?_
  refine ev_iload dX10_changes_102 rfl ?_
  refine ev_i2lk dX10_changes_104 ?_
  obtain ⟨v13, hc14, h⟩ := bind_of h
  refine ev_invV_v (k := (1 : Int)) (av := [(1, v10)]) (st := []) (v := (0, v13)) (τ := v8.2) dX10_changes_105 ml_X10_164 mv_X0_hasPaper (T := TX0) (ci := 0) rfl sp1 (by decide) (by decide) rfl ⟨Nat.le_of_ble_eq_true rfl, Nat.le_of_ble_eq_true rfl⟩ (Nat.le_of_ble_eq_true rfl) (c_X0_hasPaper hB1 hc14) ?_
  refine ev_if_eq (tgt := 139) dX10_changes_108 rfl h (fun cb h => ?_) (fun cb h => ?_)
  · exact ev_sub (L2 := [(2, (0 : Int)), (0, x1), (0, x2), (0, x3), (9, 0), (9, 0)]) (e_X10_changes_139 v8.2 x1 x2 x3 h K) ⟨.inr rfl, .inr rfl, .inr rfl, .inr rfl, .inl rfl, .inl rfl, trivial⟩
  refine ev_aload_n dX10_changes_111 rfl (by decide) ?_
  refine ev_getf (j := 0) (t := 2) (x := (1 : Int)) dX10_changes_112 cf_X10 wf_X10_12 sp0 (by decide) (by decide) rfl (by decide) (rp0_0 _) ?_
  refine ev_iload dX10_changes_115 rfl ?_
  refine ev_iload dX10_changes_117 rfl ?_
  obtain ⟨v15, hc16, h⟩ := bind_of h
  refine ev_invV_v (k := (1 : Int)) (av := [(0, v7), (0, v10)]) (st := []) (v := (0, v15)) (τ := v8.2) dX10_changes_119 ml_X10_191 mv_X0_mayFlip (T := TX0) (ci := 0) rfl sp1 (by decide) (by decide) rfl ⟨Nat.le_of_ble_eq_true rfl, Nat.le_of_ble_eq_true rfl⟩ (Nat.le_of_ble_eq_true rfl) (c_X0_mayFlip hB1 hc16) ?_
  refine ev_if_eq (tgt := 139) dX10_changes_122 rfl h (fun cb h => ?_) (fun cb h => ?_)
  · exact ev_sub (L2 := [(2, (0 : Int)), (0, x1), (0, x2), (0, x3), (9, 0), (9, 0)]) (e_X10_changes_139 v8.2 x1 x2 x3 h K) ⟨.inr rfl, .inr rfl, .inr rfl, .inr rfl, .inl rfl, .inl rfl, trivial⟩
  refine ev_aload_n dX10_changes_125 rfl (by decide) ?_
  refine ev_getf (j := 0) (t := 2) (x := (1 : Int)) dX10_changes_126 cf_X10 wf_X10_12 sp0 (by decide) (by decide) rfl (by decide) (rp0_0 _) ?_
  refine ev_iload dX10_changes_129 rfl ?_
  refine ev_iload dX10_changes_131 rfl ?_
  obtain ⟨σ17, hc18, h⟩ := bind_of h
  refine ev_invV_n (k := (1 : Int)) (av := [(0, v7), (0, v10)]) (st := []) (τ := σ17) dX10_changes_133 ml_X10_194 mv_X0_flip (T := TX0) (ci := 0) rfl sp1 (by decide) (by decide) rfl ⟨Nat.le_of_ble_eq_true rfl, Nat.le_of_ble_eq_true rfl⟩ (Nat.le_of_ble_eq_true rfl) (c_X0_flip hB1 hc18) ?_
  refine ev_iincG dX10_changes_136 rfl h rfl (fun v19 h => ?_)
  show Ev _ _ _ _ 139 _ _ _ [(2, (0 : Int)), (0, x1), (0, v19), (0, x3), (0, v7), (0, v10)] _
  exact ev_sub (L2 := [(2, (0 : Int)), (0, x1), (0, v19), (0, x3), (9, 0), (9, 0)]) (e_X10_changes_139 σ17 x1 v19 x3 h K) ⟨.inr rfl, .inr rfl, .inr rfl, .inr rfl, .inl rfl, .inl rfl, trivial⟩
set_option maxHeartbeats 4000000 in
set_option maxRecDepth 20000 in
theorem e_X10_changes_49 (σ : Mem) (x1 x2 x3 : Int)  {q : (Int × Mem)} (h : f_X10_changes_49 σ x1 x2 x3 = some q) : Ev M_X10_changes 218 218 (some (0, q.1), rho, q.2) 49 218 rho σ [(2, (0 : Int)), (0, x1), (0, x2), (0, x3), (9, 0), (9, 0)] [] := by
  unfold f_X10_changes_49 at h
  obtain ⟨e, hl, h⟩ := bind_of h
  refine loop_ev (K := K_X10_changes_49 x1 (some (0, q.1), rho, q.2)) (b_X10_changes_49 x1) FU (x2, x3, σ) e hl ?_
  show Ev M_X10_changes 218 218 _ 145 218 rho e.2 [(2, (0 : Int)), (9, 0), (0, e.1), (9, 0), (9, 0), (9, 0)] []
  replace h : f_X10_changes_145 e.2 e.1 = some q := h
  exact ev_sub (L2 := [(2, (0 : Int)), (9, 0), (0, e.1), (9, 0), (9, 0), (9, 0)]) (e_X10_changes_145 e.2 e.1 h) ⟨.inr rfl, .inl rfl, .inr rfl, .inl rfl, .inl rfl, .inl rfl, trivial⟩
set_option maxHeartbeats 4000000 in
set_option maxRecDepth 20000 in
theorem c_X10_changes {σ : Mem} {x1 : Int}  {q : (Int × Mem)} (h : f_X10_changes σ x1 = some q) : Ms yX10_changes M_X10_changes 218 218 [(2, (0 : Int)), (0, x1)] rho σ (some (0, q.1), rho, q.2) := by
  refine Ms.of 4 (by decide +kernel) rfl (fun z => absurd z (by decide)) (fun _ _ _ => trivial) rfl rfl ?_
  unfold f_X10_changes at h
  show Ev M_X10_changes 218 218 _ 0 218 rho σ [(2, (0 : Int)), (0, x1), (9, 0), (9, 0), (9, 0), (9, 0)] []
  refine ev_iload_n dX10_changes_0 rfl ?_
  refine ev_iconst dX10_changes_1 (by decide) ?_
  refine ev_icmp_lt (tgt := 11) dX10_changes_2 rfl h (fun cb h => ?_) (fun cb h => ?_)
  · exact ev_sub (L2 := [(2, (0 : Int)), (9, 0), (9, 0), (9, 0), (9, 0), (9, 0)]) (e_X10_changes_11 σ h) ⟨.inr rfl, .inl rfl, .inl rfl, .inl rfl, .inl rfl, .inl rfl, trivial⟩
  refine ev_iload_n dX10_changes_5 rfl ?_
  refine ev_bipush dX10_changes_6 (by decide) (by decide) ?_
  refine ev_icmp_le (tgt := 18) dX10_changes_8 rfl h (fun cb h => ?_) (fun cb h => ?_)
  · refine ev_aload_n dX10_changes_18 rfl (by decide) ?_
    refine ev_getf (j := 0) (t := 2) (x := (1 : Int)) dX10_changes_19 cf_X10 wf_X10_12 sp0 (by decide) (by decide) rfl (by decide) (rp0_0 _) ?_
    refine ev_getf (j := 9) (t := 0) (x := (σ (1 : Int) 9)) dX10_changes_22 cf_X0 wf_X10_174 sp1 (by decide) (by decide) rfl (by decide) rfl ?_
    refine ev_if_eq (tgt := 38) dX10_changes_25 rfl h (fun cb h => ?_) (fun cb h => ?_)
    · exact ev_sub (L2 := [(2, (0 : Int)), (9, 0), (9, 0), (9, 0), (9, 0), (9, 0)]) (e_X10_changes_38 σ h) ⟨.inr rfl, .inl rfl, .inl rfl, .inl rfl, .inl rfl, .inl rfl, trivial⟩
    refine ev_aload_n dX10_changes_28 rfl (by decide) ?_
    refine ev_getf (j := 0) (t := 2) (x := (1 : Int)) dX10_changes_29 cf_X10 wf_X10_12 sp0 (by decide) (by decide) rfl (by decide) (rp0_0 _) ?_
    refine ev_getf (j := 8) (t := 0) (x := (σ (1 : Int) 8)) dX10_changes_32 cf_X0 wf_X10_156 sp1 (by decide) (by decide) rfl (by decide) rfl ?_
    refine ev_if_ne (tgt := 45) dX10_changes_35 rfl h (fun cb h => ?_) (fun cb h => ?_)
    · refine ev_iconst dX10_changes_45 (by decide) ?_
      refine ev_istore_n dX10_changes_46 rfl (by decide) ?_
      show Ev _ _ _ _ 47 _ _ _ [(2, (0 : Int)), (0, x1), (0, (0 : Int)), (9, 0), (9, 0), (9, 0)] _
      refine ev_iconst dX10_changes_47 (by decide) ?_
      refine ev_istore_n dX10_changes_48 rfl (by decide) ?_
      show Ev _ _ _ _ 49 _ _ _ [(2, (0 : Int)), (0, x1), (0, (0 : Int)), (0, (0 : Int)), (9, 0), (9, 0)] _
      exact ev_sub (L2 := [(2, (0 : Int)), (0, x1), (0, (0 : Int)), (0, (0 : Int)), (9, 0), (9, 0)]) (e_X10_changes_49 σ x1 (0 : Int) (0 : Int) h) ⟨.inr rfl, .inr rfl, .inr rfl, .inr rfl, .inl rfl, .inl rfl, trivial⟩
    exact ev_sub (L2 := [(2, (0 : Int)), (9, 0), (9, 0), (9, 0), (9, 0), (9, 0)]) (e_X10_changes_38 σ h) ⟨.inr rfl, .inl rfl, .inl rfl, .inl rfl, .inl rfl, .inl rfl, trivial⟩
  exact ev_sub (L2 := [(2, (0 : Int)), (9, 0), (9, 0), (9, 0), (9, 0), (9, 0)]) (e_X10_changes_11 σ h) ⟨.inr rfl, .inl rfl, .inl rfl, .inl rfl, .inl rfl, .inl rfl, trivial⟩
