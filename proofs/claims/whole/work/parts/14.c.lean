set_option maxHeartbeats 4000000 in
set_option maxRecDepth 20000 in
theorem c_X10_seed {σ : Mem} {x1 : Int}  {q : (Int × Mem)} (h : f_X10_seed σ x1 = some q) : Ms yX10_seed M_X10_seed 218 218 [(2, (0 : Int)), (0, x1)] rho σ (some (0, q.1), rho, q.2) := by
  refine Ms.of 1 (by decide +kernel) rfl (fun z => absurd z (by decide)) (fun _ _ _ => trivial) rfl rfl ?_
  unfold f_X10_seed at h
  show Ev M_X10_seed 218 218 _ 0 218 rho σ [(2, (0 : Int)), (0, x1), (9, 0)] []
  refine ev_aload_n dX10_seed_0 rfl (by decide) ?_
  refine ev_getf (j := 0) (t := 2) (x := (1 : Int)) dX10_seed_1 cf_X10 wf_X10_12 sp0 (by decide) (by decide) rfl (by decide) (rp0_0 _) ?_
  refine ev_getf (j := 13) (t := 0) (x := (σ (1 : Int) 13)) dX10_seed_4 cf_X0 wf_X10_397 sp1 (by decide) (by decide) rfl (by decide) rfl ?_
  refine ev_istore_nG dX10_seed_7 h rfl (by decide) (fun v1 h => ?_)
  show Ev _ _ _ _ 8 _ _ _ [(2, (0 : Int)), (0, x1), (0, v1)] _
  refine ev_aload_n dX10_seed_8 rfl (by decide) ?_
  refine ev_getf (j := 0) (t := 2) (x := (1 : Int)) dX10_seed_9 cf_X10 wf_X10_12 sp0 (by decide) (by decide) rfl (by decide) (rp0_0 _) ?_
  refine ev_iload_n dX10_seed_12 rfl ?_
  refine ev_putfG (j := 13) (t := 0) dX10_seed_13 cf_X0 wf_X10_397 sp1 (by decide) (by decide) rfl (by decide) (by decide) rfl (fun z => absurd z (by decide +kernel)) h (fun σ2 h => ?_)
  refine ev_iload_n dX10_seed_16 rfl ?_
  obtain rfl := Option.some.inj h
  dsimp only
  exact ev_iret dX10_seed_17 rfl rfl
set_option maxHeartbeats 4000000 in
set_option maxRecDepth 20000 in
theorem c_X10_image {σ : Mem}  {q : (Int × Mem)} (h : f_X10_image σ  = some q) : Ms yX10_image M_X10_image 218 218 [(2, (0 : Int))] rho σ (some (0, q.1), rho, q.2) := by
  refine Ms.of 0 (by decide +kernel) rfl (fun z => absurd z (by decide)) (fun _ _ _ => trivial) rfl rfl ?_
  unfold f_X10_image at h
  show Ev M_X10_image 218 218 _ 0 218 rho σ [(2, (0 : Int))] []
  refine ev_aload_n dX10_image_0 rfl (by decide) ?_
  refine ev_getf (j := 2) (t := 2) (x := (19 : Int)) dX10_image_1 cf_X10 wf_X10_19 sp0 (by decide) (by decide) rfl (by decide) (rp0_2 _) ?_
  refine ev_aload_n dX10_image_4 rfl (by decide) ?_
  refine ev_getf (j := 0) (t := 2) (x := (1 : Int)) dX10_image_5 cf_X10 wf_X10_12 sp0 (by decide) (by decide) rfl (by decide) (rp0_0 _) ?_
  obtain ⟨σ1, hc2, h⟩ := bind_of h
  refine ev_invV_n (k := (19 : Int)) (av := [(2, (1 : Int))]) (st := []) (τ := σ1) dX10_image_8 ml_X10_226 mv_X0_become (T := TX0) (ci := 0) rfl sp19 (by decide) (by decide) rfl ⟨Nat.le_of_ble_eq_true rfl, Nat.le_of_ble_eq_true rfl⟩ (Nat.le_of_ble_eq_true rfl) (c_X0_become hB19 hB1 hc2) ?_
  refine ev_aload_n dX10_image_11 rfl (by decide) ?_
  refine ev_iconst dX10_image_12 (by decide) ?_
  refine ev_putfG (j := 3) (t := 0) dX10_image_13 cf_X10 wf_X10_400 sp0 (by decide) (by decide) rfl (by decide) (by decide) rfl (fun _ => .inr rfl) h (fun σ3 h => ?_)
  refine ev_iconst dX10_image_16 (by decide) ?_
  obtain rfl := Option.some.inj h
  dsimp only
  exact ev_iret dX10_image_17 rfl rfl
set_option maxHeartbeats 4000000 in
set_option maxRecDepth 20000 in
theorem c_X10_back {σ : Mem}  {q : (Int × Mem)} (h : f_X10_back σ  = some q) : Ms yX10_back M_X10_back 218 218 [(2, (0 : Int))] rho σ (some (0, q.1), rho, q.2) := by
  refine Ms.of 0 (by decide +kernel) rfl (fun z => absurd z (by decide)) (fun _ _ _ => trivial) rfl rfl ?_
  unfold f_X10_back at h
  show Ev M_X10_back 218 218 _ 0 218 rho σ [(2, (0 : Int))] []
  refine ev_aload_n dX10_back_0 rfl (by decide) ?_
  refine ev_getf (j := 3) (t := 0) (x := (σ (0 : Int) 3)) dX10_back_1 cf_X10 wf_X10_400 sp0 (by decide) (by decide) rfl (by decide) rfl ?_
  refine ev_if_ne (tgt := 14) dX10_back_4 rfl h (fun cb h => ?_) (fun cb h => ?_)
  · refine ev_aload_n dX10_back_14 rfl (by decide) ?_
    refine ev_getf (j := 0) (t := 2) (x := (1 : Int)) dX10_back_15 cf_X10 wf_X10_12 sp0 (by decide) (by decide) rfl (by decide) (rp0_0 _) ?_
    refine ev_aload_n dX10_back_18 rfl (by decide) ?_
    refine ev_getf (j := 2) (t := 2) (x := (19 : Int)) dX10_back_19 cf_X10 wf_X10_19 sp0 (by decide) (by decide) rfl (by decide) (rp0_2 _) ?_
    obtain ⟨σ1, hc2, h⟩ := bind_of h
    refine ev_invV_n (k := (1 : Int)) (av := [(2, (19 : Int))]) (st := []) (τ := σ1) dX10_back_22 ml_X10_226 mv_X0_become (T := TX0) (ci := 0) rfl sp1 (by decide) (by decide) rfl ⟨Nat.le_of_ble_eq_true rfl, Nat.le_of_ble_eq_true rfl⟩ (Nat.le_of_ble_eq_true rfl) (c_X0_become hB1 hB19 hc2) ?_
    refine ev_aload_n dX10_back_25 rfl (by decide) ?_
    refine ev_getf (j := 5) (t := 2) (x := (30 : Int)) dX10_back_26 cf_X10 wf_X10_32 sp0 (by decide) (by decide) rfl (by decide) (rp0_5 _) ?_
    refine ev_aload_n dX10_back_29 rfl (by decide) ?_
    refine ev_getf (j := 0) (t := 2) (x := (1 : Int)) dX10_back_30 cf_X10 wf_X10_12 sp0 (by decide) (by decide) rfl (by decide) (rp0_0 _) ?_
    refine ev_getf (j := 9) (t := 0) (x := (σ1 (1 : Int) 9)) dX10_back_33 cf_X0 wf_X10_174 sp1 (by decide) (by decide) rfl (by decide) rfl ?_
    obtain ⟨σ3, hc4, h⟩ := bind_of h
    refine ev_invV_n (k := (30 : Int)) (av := [(0, (σ1 (1 : Int) 9))]) (st := []) (τ := σ3) dX10_back_36 ml_X10_404 mv_X6_dropCandsFrom (T := TX6) (ci := 5) rfl sp30 (by decide) (by decide) rfl ⟨Nat.le_of_ble_eq_true rfl, Nat.le_of_ble_eq_true rfl⟩ (Nat.le_of_ble_eq_true rfl) (c_X6_dropCandsFrom hc4) ?_
    show Ev _ _ _ _ 39 _ _ _ _ _
    refine ev_aload_n dX10_back_39 rfl (by decide) ?_
    refine ev_getf (j := 8) (t := 2) (x := (43 : Int)) dX10_back_40 cf_X10 wf_X10_50 sp0 (by decide) (by decide) rfl (by decide) (rp0_8 _) ?_
    obtain ⟨σ5, hc6, h⟩ := bind_of h
    refine ev_invV_n (k := (43 : Int)) (av := []) (st := []) (τ := σ5) dX10_back_43 ml_X10_171 mv_X9_forgetAll (T := TX9) (ci := 8) rfl sp43 (by decide) (by decide) rfl ⟨Nat.le_of_ble_eq_true rfl, Nat.le_of_ble_eq_true rfl⟩ (Nat.le_of_ble_eq_true rfl) (c_X9_forgetAll hc6) ?_
    refine ev_iconst dX10_back_46 (by decide) ?_
    obtain rfl := Option.some.inj h
    dsimp only
    exact ev_iret dX10_back_47 rfl rfl
  refine ev_aload_n dX10_back_7 rfl (by decide) ?_
  refine ev_bipush dX10_back_8 (by decide) (by decide) ?_
  obtain ⟨v7, hc8, h⟩ := bind_of h
  refine ev_invV_v (k := (0 : Int)) (av := [(0, (-55 : Int))]) (st := []) (v := (0, v7.1)) (τ := v7.2) dX10_back_10 ml_X10_88 mv_X10_refuse (T := TX10) (ci := 9) rfl sp0 (by decide) (by decide) rfl ⟨Nat.le_of_ble_eq_true rfl, Nat.le_of_ble_eq_true rfl⟩ (Nat.le_of_ble_eq_true rfl) (c_X10_refuse hc8) ?_
  obtain rfl := Option.some.inj h
  dsimp only
  exact ev_iret dX10_back_13 rfl rfl
def K_X10_daysSomebodyCant_14 (x1 x2 : Int) (r : Option V × Mem × Mem) : (Int × Int × Mem) ⊕ ((Int × Mem)) → Prop := Sum.elim (fun a => Ev M_X10_daysSomebodyCant 218 218 r 14 218 rho a.2.2 [(2, (0 : Int)), (0, x1), (0, x2), (0, a.1), (0, a.2.1)] []) (fun e => Ev M_X10_daysSomebodyCant 218 218 r 63 218 rho e.2 [(2, (0 : Int)), (0, x1), (0, x2), (0, e.1), (9, 0)] [])
def K_X10_daysSomebodyCant_4 (r : Option V × Mem × Mem) : (Int × Int × Mem) ⊕ ((Int × Mem)) → Prop := Sum.elim (fun a => Ev M_X10_daysSomebodyCant 218 218 r 4 218 rho a.2.2 [(2, (0 : Int)), (0, a.1), (0, a.2.1), (9, 0), (9, 0)] []) (fun e => Ev M_X10_daysSomebodyCant 218 218 r 76 218 rho e.2 [(9, 0), (0, e.1), (9, 0), (9, 0), (9, 0)] [])
set_option maxHeartbeats 4000000 in
set_option maxRecDepth 20000 in
theorem e_X10_daysSomebodyCant_56 (σ : Mem) (x1 x2 x4 s0 : Int)  {q : ((Int × Int × Mem) ⊕ ((Int × Mem)))} (h : f_X10_daysSomebodyCant_56 σ x1 x2 x4 s0 = some q) {r : Option V × Mem × Mem} (K : K_X10_daysSomebodyCant_14 x1 x2 r q) : Ev M_X10_daysSomebodyCant 218 218 r 56 218 rho σ [(2, (0 : Int)), (0, x1), (0, x2), (9, 0), (0, x4)] [(0, s0)] := by
  unfold f_X10_daysSomebodyCant_56 at h
  refine ev_istore_n dX10_daysSomebodyCant_56 rfl (by decide) ?_
  show Ev _ _ _ _ 57 _ _ _ [(2, (0 : Int)), (0, x1), (0, x2), (0, s0), (0, x4)] _
  refine ev_iincG dX10_daysSomebodyCant_57 rfl h rfl (fun v4 h => ?_)
  show Ev _ _ _ _ 60 _ _ _ [(2, (0 : Int)), (0, x1), (0, x2), (0, s0), (0, v4)] _
  refine ev_goto (tgt := 14) dX10_daysSomebodyCant_60 rfl ?_
  obtain rfl := Option.some.inj h
  exact ev_sub (L2 := [(2, (0 : Int)), (0, x1), (0, x2), (0, s0), (0, v4)]) K ⟨.inr rfl, .inr rfl, .inr rfl, .inr rfl, .inr rfl, trivial⟩
set_option maxHeartbeats 4000000 in
set_option maxRecDepth 20000 in
theorem e_X10_daysSomebodyCant_70 (σ : Mem) (x1 x2 : Int)  {q : ((Int × Int × Mem) ⊕ ((Int × Mem)))} (h : f_X10_daysSomebodyCant_70 σ x1 x2 = some q) {r : Option V × Mem × Mem} (K : K_X10_daysSomebodyCant_4  r q) : Ev M_X10_daysSomebodyCant 218 218 r 70 218 rho σ [(2, (0 : Int)), (0, x1), (0, x2), (9, 0), (9, 0)] [] := by
  unfold f_X10_daysSomebodyCant_70 at h
  refine ev_iincG dX10_daysSomebodyCant_70 rfl h rfl (fun v6 h => ?_)
  show Ev _ _ _ _ 73 _ _ _ [(2, (0 : Int)), (0, x1), (0, v6), (9, 0), (9, 0)] _
  refine ev_goto (tgt := 4) dX10_daysSomebodyCant_73 rfl ?_
  obtain rfl := Option.some.inj h
  exact ev_sub (L2 := [(2, (0 : Int)), (0, x1), (0, v6), (9, 0), (9, 0)]) K ⟨.inr rfl, .inr rfl, .inr rfl, .inl rfl, .inl rfl, trivial⟩
set_option maxHeartbeats 4000000 in
set_option maxRecDepth 20000 in
theorem e_X10_daysSomebodyCant_63 (σ : Mem) (x1 x2 x3 : Int)  {q : ((Int × Int × Mem) ⊕ ((Int × Mem)))} (h : f_X10_daysSomebodyCant_63 σ x1 x2 x3 = some q) {r : Option V × Mem × Mem} (K : K_X10_daysSomebodyCant_4  r q) : Ev M_X10_daysSomebodyCant 218 218 r 63 218 rho σ [(2, (0 : Int)), (0, x1), (0, x2), (0, x3), (9, 0)] [] := by
  unfold f_X10_daysSomebodyCant_63 at h
  refine ev_iload_n dX10_daysSomebodyCant_63 rfl ?_
  refine ev_if_eq (tgt := 70) dX10_daysSomebodyCant_64 rfl h (fun cb h => ?_) (fun cb h => ?_)
  · exact ev_sub (L2 := [(2, (0 : Int)), (0, x1), (0, x2), (9, 0), (9, 0)]) (e_X10_daysSomebodyCant_70 σ x1 x2 h K) ⟨.inr rfl, .inr rfl, .inr rfl, .inl rfl, .inl rfl, trivial⟩
  refine ev_iincG dX10_daysSomebodyCant_67 rfl h rfl (fun v5 h => ?_)
  show Ev _ _ _ _ 70 _ _ _ [(2, (0 : Int)), (0, v5), (0, x2), (0, x3), (9, 0)] _
  exact ev_sub (L2 := [(2, (0 : Int)), (0, v5), (0, x2), (9, 0), (9, 0)]) (e_X10_daysSomebodyCant_70 σ v5 x2 h K) ⟨.inr rfl, .inr rfl, .inr rfl, .inl rfl, .inl rfl, trivial⟩
set_option maxHeartbeats 4000000 in
set_option maxRecDepth 20000 in
theorem b_X10_daysSomebodyCant_14 (x1 x2 : Int)  {r : Option V × Mem × Mem} : ∀ a x, f_X10_daysSomebodyCant_14B x1 x2 a = some x → K_X10_daysSomebodyCant_14 x1 x2 r x → K_X10_daysSomebodyCant_14 x1 x2 r (.inl a) := by
  intro a x h K
  obtain ⟨x3, x4, σ⟩ := a
  have h : f_X10_daysSomebodyCant_14C x1 x2 x3 x4 σ = some x := h
  unfold f_X10_daysSomebodyCant_14C at h
  show Ev M_X10_daysSomebodyCant 218 218 r 14 218 rho σ [(2, (0 : Int)), (0, x1), (0, x2), (0, x3), (0, x4)] []
  refine ev_iload dX10_daysSomebodyCant_14 rfl ?_
  refine ev_aload_n dX10_daysSomebodyCant_16 rfl (by decide) ?_
  refine ev_getf (j := 0) (t := 2) (x := (1 : Int)) dX10_daysSomebodyCant_17 cf_X10 wf_X10_12 sp0 (by decide) (by decide) rfl (by decide) (rp0_0 _) ?_
  refine ev_getf (j := 9) (t := 0) (x := (σ (1 : Int) 9)) dX10_daysSomebodyCant_20 cf_X0 wf_X10_174 sp1 (by decide) (by decide) rfl (by decide) rfl ?_
  refine ev_icmp_ge (tgt := 63) dX10_daysSomebodyCant_23 rfl h (fun cb h => ?_) (fun cb h => ?_)
  · obtain rfl := Option.some.inj h
    exact ev_sub (L2 := [(2, (0 : Int)), (0, x1), (0, x2), (0, x3), (9, 0)]) K ⟨.inr rfl, .inr rfl, .inr rfl, .inr rfl, .inl rfl, trivial⟩
  refine ev_iload_n dX10_daysSomebodyCant_26 rfl ?_
  refine ev_if_ne (tgt := 63) dX10_daysSomebodyCant_27 rfl h (fun cb h => ?_) (fun cb h => ?_)
  · obtain rfl := Option.some.inj h
    exact ev_sub (L2 := [(2, (0 : Int)), (0, x1), (0, x2), (0, x3), (9, 0)]) K ⟨.inr rfl, .inr rfl, .inr rfl, .inr rfl, .inl rfl, trivial⟩
  refine ev_aload_n dX10_daysSomebodyCant_30 rfl (by decide) ?_
  refine ev_getf (j := 8) (t := 2) (x := (43 : Int)) dX10_daysSomebodyCant_31 cf_X10 wf_X10_50 sp0 (by decide) (by decide) rfl (by decide) (rp0_8 _) ?_
  refine ev_aload_n dX10_daysSomebodyCant_34 rfl (by decide) ?_
  refine ev_getf (j := 0) (t := 2) (x := (1 : Int)) dX10_daysSomebodyCant_35 cf_X10 wf_X10_12 sp0 (by decide) (by decide) rfl (by decide) (rp0_0 _) ?_
  refine ev_iload dX10_daysSomebodyCant_38 rfl ?_
  obtain ⟨v1, hc2, h⟩ := bind_of h
  refine ev_invV_v (k := (43 : Int)) (av := [(2, (1 : Int)), (0, x4)]) (st := []) (v := (2, v1.1)) (τ := v1.2) dX10_daysSomebodyCant_40 ml_X10_243 mv_X9_of (T := TX9) (ci := 8) rfl sp43 (by decide) (by decide) rfl ⟨Nat.le_of_ble_eq_true rfl, Nat.le_of_ble_eq_true rfl⟩ (Nat.le_of_ble_eq_true rfl) (c_X9_of hc2) ?_
  have hw3 := w_X9_of hc2
  refine ev_getf (j := 0) (t := 2) (x := (v1.1 + 1)) dX10_daysSomebodyCant_43 cf_X8 wf_X10_265 (sW hw3) (pW hw3).1 (pW hw3).2 rfl (by decide) (rW0 _ hw3) ?_
  refine ev_iload_n dX10_daysSomebodyCant_46 rfl ?_
  refine ev_zald dX10_daysSomebodyCant_47 (sW0 hw3) (pW0 hw3).1 (pW0 hw3).2 h (fun h => ?_)
  refine ev_if_ne (tgt := 55) dX10_daysSomebodyCant_48 rfl h (fun cb h => ?_) (fun cb h => ?_)
  · refine ev_iconst dX10_daysSomebodyCant_55 (by decide) ?_
    exact ev_sub (L2 := [(2, (0 : Int)), (0, x1), (0, x2), (9, 0), (0, x4)]) (e_X10_daysSomebodyCant_56 v1.2 x1 x2 x4 (0 : Int) h K) ⟨.inr rfl, .inr rfl, .inr rfl, .inl rfl, .inr rfl, trivial⟩
  refine ev_iconst dX10_daysSomebodyCant_51 (by decide) ?_
  refine ev_goto (tgt := 56) dX10_daysSomebodyCant_52 rfl ?_
  exact ev_sub (L2 := [(2, (0 : Int)), (0, x1), (0, x2), (9, 0), (0, x4)]) (e_X10_daysSomebodyCant_56 v1.2 x1 x2 x4 (1 : Int) h K) ⟨.inr rfl, .inr rfl, .inr rfl, .inl rfl, .inr rfl, trivial⟩
set_option maxHeartbeats 4000000 in
set_option maxRecDepth 20000 in
theorem e_X10_daysSomebodyCant_14 (σ : Mem) (x1 x2 x3 x4 : Int)  {q : ((Int × Int × Mem) ⊕ ((Int × Mem)))} (h : f_X10_daysSomebodyCant_14 σ x1 x2 x3 x4 = some q) {r : Option V × Mem × Mem} (K : K_X10_daysSomebodyCant_4  r q) : Ev M_X10_daysSomebodyCant 218 218 r 14 218 rho σ [(2, (0 : Int)), (0, x1), (0, x2), (0, x3), (0, x4)] [] := by
  unfold f_X10_daysSomebodyCant_14 at h
  obtain ⟨e, hl, h⟩ := bind_of h
  refine loop_ev (K := K_X10_daysSomebodyCant_14 x1 x2 r) (b_X10_daysSomebodyCant_14 x1 x2) FU (x3, x4, σ) e hl ?_
  show Ev M_X10_daysSomebodyCant 218 218 r 63 218 rho e.2 [(2, (0 : Int)), (0, x1), (0, x2), (0, e.1), (9, 0)] []
  replace h : f_X10_daysSomebodyCant_63 e.2 x1 x2 e.1 = some q := h
  exact ev_sub (L2 := [(2, (0 : Int)), (0, x1), (0, x2), (0, e.1), (9, 0)]) (e_X10_daysSomebodyCant_63 e.2 x1 x2 e.1 h K) ⟨.inr rfl, .inr rfl, .inr rfl, .inr rfl, .inl rfl, trivial⟩
set_option maxHeartbeats 4000000 in
set_option maxRecDepth 20000 in
theorem b_X10_daysSomebodyCant_4  {r : Option V × Mem × Mem} : ∀ a x, f_X10_daysSomebodyCant_4B  a = some x → K_X10_daysSomebodyCant_4  r x → K_X10_daysSomebodyCant_4  r (.inl a) := by
  intro a x h K
  obtain ⟨x1, x2, σ⟩ := a
  have h : f_X10_daysSomebodyCant_4C  x1 x2 σ = some x := h
  unfold f_X10_daysSomebodyCant_4C at h
  show Ev M_X10_daysSomebodyCant 218 218 r 4 218 rho σ [(2, (0 : Int)), (0, x1), (0, x2), (9, 0), (9, 0)] []
  refine ev_iload_n dX10_daysSomebodyCant_4 rfl ?_
  refine ev_iconst dX10_daysSomebodyCant_5 (by decide) ?_
  refine ev_icmp_ge (tgt := 76) dX10_daysSomebodyCant_6 rfl h (fun cb h => ?_) (fun cb h => ?_)
  · obtain rfl := Option.some.inj h
    exact ev_sub (L2 := [(9, 0), (0, x1), (9, 0), (9, 0), (9, 0)]) K ⟨.inl rfl, .inr rfl, .inl rfl, .inl rfl, .inl rfl, trivial⟩
  refine ev_iconst dX10_daysSomebodyCant_9 (by decide) ?_
  refine ev_istore_n dX10_daysSomebodyCant_10 rfl (by decide) ?_
  show Ev _ _ _ _ 11 _ _ _ [(2, (0 : Int)), (0, x1), (0, x2), (0, (0 : Int)), (9, 0)] _
  refine ev_iconst dX10_daysSomebodyCant_11 (by decide) ?_
  refine ev_istore dX10_daysSomebodyCant_12 rfl (by decide) ?_
  show Ev _ _ _ _ 14 _ _ _ [(2, (0 : Int)), (0, x1), (0, x2), (0, (0 : Int)), (0, (0 : Int))] _
  exact ev_sub (L2 := [(2, (0 : Int)), (0, x1), (0, x2), (0, (0 : Int)), (0, (0 : Int))]) (e_X10_daysSomebodyCant_14 σ x1 x2 (0 : Int) (0 : Int) h K) ⟨.inr rfl, .inr rfl, .inr rfl, .inr rfl, .inr rfl, trivial⟩
set_option maxHeartbeats 4000000 in
set_option maxRecDepth 20000 in
theorem e_X10_daysSomebodyCant_4 (σ : Mem) (x1 x2 : Int)  {q : (Int × Mem)} (h : f_X10_daysSomebodyCant_4 σ x1 x2 = some q) : Ev M_X10_daysSomebodyCant 218 218 (some (0, q.1), rho, q.2) 4 218 rho σ [(2, (0 : Int)), (0, x1), (0, x2), (9, 0), (9, 0)] [] := by
  unfold f_X10_daysSomebodyCant_4 at h
  obtain ⟨e, hl, h⟩ := bind_of h
  refine loop_ev (K := K_X10_daysSomebodyCant_4  (some (0, q.1), rho, q.2)) (b_X10_daysSomebodyCant_4 ) FU (x1, x2, σ) e hl ?_
  show Ev M_X10_daysSomebodyCant 218 218 _ 76 218 rho e.2 [(9, 0), (0, e.1), (9, 0), (9, 0), (9, 0)] []
  replace h : some (e.1, e.2) = some q := h
  refine ev_iload_n dX10_daysSomebodyCant_76 rfl ?_
  obtain rfl := Option.some.inj h
  dsimp only
  exact ev_iret dX10_daysSomebodyCant_77 rfl rfl
set_option maxHeartbeats 4000000 in
set_option maxRecDepth 20000 in
theorem c_X10_daysSomebodyCant {σ : Mem}  {q : (Int × Mem)} (h : f_X10_daysSomebodyCant σ  = some q) : Ms yX10_daysSomebodyCant M_X10_daysSomebodyCant 218 218 [(2, (0 : Int))] rho σ (some (0, q.1), rho, q.2) := by
  refine Ms.of 4 (by decide +kernel) rfl (fun z => absurd z (by decide)) (fun _ _ _ => trivial) rfl rfl ?_
  unfold f_X10_daysSomebodyCant at h
  show Ev M_X10_daysSomebodyCant 218 218 _ 0 218 rho σ [(2, (0 : Int)), (9, 0), (9, 0), (9, 0), (9, 0)] []
  refine ev_iconst dX10_daysSomebodyCant_0 (by decide) ?_
  refine ev_istore_n dX10_daysSomebodyCant_1 rfl (by decide) ?_
  show Ev _ _ _ _ 2 _ _ _ [(2, (0 : Int)), (0, (0 : Int)), (9, 0), (9, 0), (9, 0)] _
  refine ev_iconst dX10_daysSomebodyCant_2 (by decide) ?_
  refine ev_istore_n dX10_daysSomebodyCant_3 rfl (by decide) ?_
  show Ev _ _ _ _ 4 _ _ _ [(2, (0 : Int)), (0, (0 : Int)), (0, (0 : Int)), (9, 0), (9, 0)] _
  exact ev_sub (L2 := [(2, (0 : Int)), (0, (0 : Int)), (0, (0 : Int)), (9, 0), (9, 0)]) (e_X10_daysSomebodyCant_4 σ (0 : Int) (0 : Int) h) ⟨.inr rfl, .inr rfl, .inr rfl, .inl rfl, .inl rfl, trivial⟩
set_option maxHeartbeats 4000000 in
set_option maxRecDepth 20000 in
theorem e_X10_status_22 (σ : Mem) (x1 : Int)  {q : (Int × Mem)} (h : f_X10_status_22 σ x1 = some q) : Ev M_X10_status 218 218 (some (0, q.1), rho, q.2) 22 218 rho σ [(2, (0 : Int)), (0, x1)] [] := by
  unfold f_X10_status_22 at h
  refine ev_iload_n dX10_status_22 rfl ?_
  refine ev_by h (fun cs h => ?_) (fun cs0 h => ?_)
  · refine ev_tswIn (off := 53) (tgt := 76) dX10_status_23 (by rw [cs]; decide) (by rw [cs]; decide) (by rw [cs]; rfl) rfl ?_
    refine ev_aload_n dX10_status_76 rfl (by decide) ?_
    refine ev_getf (j := 0) (t := 2) (x := (1 : Int)) dX10_status_77 cf_X10 wf_X10_12 sp0 (by decide) (by decide) rfl (by decide) (rp0_0 _) ?_
    refine ev_getf (j := 8) (t := 0) (x := (σ (1 : Int) 8)) dX10_status_80 cf_X0 wf_X10_156 sp1 (by decide) (by decide) rfl (by decide) rfl ?_
    obtain rfl := Option.some.inj h
    dsimp only
    exact ev_iret dX10_status_83 rfl rfl
  refine ev_by h (fun cs h => ?_) (fun cs1 h => ?_)
  · refine ev_tswIn (off := 61) (tgt := 84) dX10_status_23 (by rw [cs]; decide) (by rw [cs]; decide) (by rw [cs]; rfl) rfl ?_
    refine ev_aload_n dX10_status_84 rfl (by decide) ?_
    refine ev_getf (j := 0) (t := 2) (x := (1 : Int)) dX10_status_85 cf_X10 wf_X10_12 sp0 (by decide) (by decide) rfl (by decide) (rp0_0 _) ?_
    refine ev_getf (j := 9) (t := 0) (x := (σ (1 : Int) 9)) dX10_status_88 cf_X0 wf_X10_174 sp1 (by decide) (by decide) rfl (by decide) rfl ?_
    obtain rfl := Option.some.inj h
    dsimp only
    exact ev_iret dX10_status_91 rfl rfl
  refine ev_by h (fun cs h => ?_) (fun cs2 h => ?_)
  · refine ev_tswIn (off := 69) (tgt := 92) dX10_status_23 (by rw [cs]; decide) (by rw [cs]; decide) (by rw [cs]; rfl) rfl ?_
    refine ev_aload_n dX10_status_92 rfl (by decide) ?_
    refine ev_getf (j := 0) (t := 2) (x := (1 : Int)) dX10_status_93 cf_X10 wf_X10_12 sp0 (by decide) (by decide) rfl (by decide) (rp0_0 _) ?_
    refine ev_getf (j := 10) (t := 0) (x := (σ (1 : Int) 10)) dX10_status_96 cf_X0 wf_X10_200 sp1 (by decide) (by decide) rfl (by decide) rfl ?_
    obtain rfl := Option.some.inj h
    dsimp only
    exact ev_iret dX10_status_99 rfl rfl
  refine ev_by h (fun cs h => ?_) (fun cs3 h => ?_)
  · refine ev_tswIn (off := 77) (tgt := 100) dX10_status_23 (by rw [cs]; decide) (by rw [cs]; decide) (by rw [cs]; rfl) rfl ?_
    refine ev_aload_n dX10_status_100 rfl (by decide) ?_
    refine ev_getf (j := 0) (t := 2) (x := (1 : Int)) dX10_status_101 cf_X10 wf_X10_12 sp0 (by decide) (by decide) rfl (by decide) (rp0_0 _) ?_
    refine ev_getf (j := 11) (t := 0) (x := (σ (1 : Int) 11)) dX10_status_104 cf_X0 wf_X10_209 sp1 (by decide) (by decide) rfl (by decide) rfl ?_
    obtain rfl := Option.some.inj h
    dsimp only
    exact ev_iret dX10_status_107 rfl rfl
  refine ev_by h (fun cs h => ?_) (fun cs4 h => ?_)
  · refine ev_tswIn (off := 85) (tgt := 108) dX10_status_23 (by rw [cs]; decide) (by rw [cs]; decide) (by rw [cs]; rfl) rfl ?_
    refine ev_aload_n dX10_status_108 rfl (by decide) ?_
    refine ev_getf (j := 0) (t := 2) (x := (1 : Int)) dX10_status_109 cf_X10 wf_X10_12 sp0 (by decide) (by decide) rfl (by decide) (rp0_0 _) ?_
    refine ev_getf (j := 12) (t := 0) (x := (σ (1 : Int) 12)) dX10_status_112 cf_X0 wf_X10_212 sp1 (by decide) (by decide) rfl (by decide) rfl ?_
    obtain rfl := Option.some.inj h
    dsimp only
    exact ev_iret dX10_status_115 rfl rfl
  refine ev_by h (fun cs h => ?_) (fun cs5 h => ?_)
  · refine ev_tswIn (off := 93) (tgt := 116) dX10_status_23 (by rw [cs]; decide) (by rw [cs]; decide) (by rw [cs]; rfl) rfl ?_
    refine ev_aload_n dX10_status_116 rfl (by decide) ?_
    refine ev_getf (j := 0) (t := 2) (x := (1 : Int)) dX10_status_117 cf_X10 wf_X10_12 sp0 (by decide) (by decide) rfl (by decide) (rp0_0 _) ?_
    obtain ⟨v1, hc2, h⟩ := bind_of h
    refine ev_invV_v (k := (1 : Int)) (av := []) (st := []) (v := (0, v1)) (τ := σ) dX10_status_120 ml_X10_407 mv_X0_takenInAll (T := TX0) (ci := 0) rfl sp1 (by decide) (by decide) rfl ⟨Nat.le_of_ble_eq_true rfl, Nat.le_of_ble_eq_true rfl⟩ (Nat.le_of_ble_eq_true rfl) (c_X0_takenInAll hB1 hc2) ?_
    obtain rfl := Option.some.inj h
    dsimp only
    exact ev_iret dX10_status_123 rfl rfl
  refine ev_by h (fun cs h => ?_) (fun cs6 h => ?_)
  · refine ev_tswIn (off := 101) (tgt := 124) dX10_status_23 (by rw [cs]; decide) (by rw [cs]; decide) (by rw [cs]; rfl) rfl ?_
    refine ev_aload_n dX10_status_124 rfl (by decide) ?_
    obtain ⟨v3, hc4, h⟩ := bind_of h
    refine ev_invV_v (k := (0 : Int)) (av := []) (st := []) (v := (0, v3.1)) (τ := v3.2) dX10_status_125 ml_X10_410 mv_X10_daysSomebodyCant (T := TX10) (ci := 9) rfl sp0 (by decide) (by decide) rfl ⟨Nat.le_of_ble_eq_true rfl, Nat.le_of_ble_eq_true rfl⟩ (Nat.le_of_ble_eq_true rfl) (c_X10_daysSomebodyCant hc4) ?_
    obtain rfl := Option.some.inj h
    dsimp only
    exact ev_iret dX10_status_128 rfl rfl
  refine ev_by h (fun cs h => ?_) (fun cs7 h => ?_)
  · refine ev_tswIn (off := 106) (tgt := 129) dX10_status_23 (by rw [cs]; decide) (by rw [cs]; decide) (by rw [cs]; rfl) rfl ?_
    refine ev_aload_n dX10_status_129 rfl (by decide) ?_
    refine ev_getf (j := 4) (t := 2) (x := (28 : Int)) dX10_status_130 cf_X10 wf_X10_25 sp0 (by decide) (by decide) rfl (by decide) (rp0_4 _) ?_
    obtain ⟨v5, hc6, h⟩ := bind_of h
    refine ev_invV_v (k := (28 : Int)) (av := []) (st := []) (v := (0, v5)) (τ := σ) dX10_status_133 ml_X10_413 mv_X7_size (T := TX7) (ci := 6) rfl sp28 (by decide) (by decide) rfl ⟨Nat.le_of_ble_eq_true rfl, Nat.le_of_ble_eq_true rfl⟩ (Nat.le_of_ble_eq_true rfl) (c_X7_size hc6) ?_
    obtain rfl := Option.some.inj h
    dsimp only
    exact ev_iret dX10_status_136 rfl rfl
  refine ev_by h (fun cs h => ?_) (fun cs8 h => ?_)
  · refine ev_tswIn (off := 114) (tgt := 137) dX10_status_23 (by rw [cs]; decide) (by rw [cs]; decide) (by rw [cs]; rfl) rfl ?_
    refine ev_aload_n dX10_status_137 rfl (by decide) ?_
    refine ev_getf (j := 0) (t := 2) (x := (1 : Int)) dX10_status_138 cf_X10 wf_X10_12 sp0 (by decide) (by decide) rfl (by decide) (rp0_0 _) ?_
    refine ev_getf (j := 13) (t := 0) (x := (σ (1 : Int) 13)) dX10_status_141 cf_X0 wf_X10_397 sp1 (by decide) (by decide) rfl (by decide) rfl ?_
    obtain rfl := Option.some.inj h
    dsimp only
    exact ev_iret dX10_status_144 rfl rfl
  refine ev_by h (fun cs h => ?_) (fun cs9 h => ?_)
  · refine ev_tswIn (off := 122) (tgt := 145) dX10_status_23 (by rw [cs]; decide) (by rw [cs]; decide) (by rw [cs]; rfl) rfl ?_
    refine ev_aload_n dX10_status_145 rfl (by decide) ?_
    refine ev_getf (j := 5) (t := 2) (x := (30 : Int)) dX10_status_146 cf_X10 wf_X10_32 sp0 (by decide) (by decide) rfl (by decide) (rp0_5 _) ?_
    obtain ⟨v7, hc8, h⟩ := bind_of h
    refine ev_invV_v (k := (30 : Int)) (av := []) (st := []) (v := (0, v7)) (τ := σ) dX10_status_149 ml_X10_416 mv_X6_filled (T := TX6) (ci := 5) rfl sp30 (by decide) (by decide) rfl ⟨Nat.le_of_ble_eq_true rfl, Nat.le_of_ble_eq_true rfl⟩ (Nat.le_of_ble_eq_true rfl) (c_X6_filled hc8) ?_
    obtain rfl := Option.some.inj h
    dsimp only
    exact ev_iret dX10_status_152 rfl rfl
  refine ev_tswOut (tgt := 153) dX10_status_23 (by omega) rfl ?_
  refine ev_iconst dX10_status_153 (by decide) ?_
  obtain rfl := Option.some.inj h
  dsimp only
  exact ev_iret dX10_status_154 rfl rfl
set_option maxHeartbeats 4000000 in
set_option maxRecDepth 20000 in
theorem c_X10_status {σ : Mem} {x1 : Int}  {q : (Int × Mem)} (h : f_X10_status σ x1 = some q) : Ms yX10_status M_X10_status 218 218 [(2, (0 : Int)), (0, x1)] rho σ (some (0, q.1), rho, q.2) := by
  refine Ms.of 0 (by decide +kernel) rfl (fun z => absurd z (by decide)) (fun _ _ _ => trivial) rfl rfl ?_
  unfold f_X10_status at h
  show Ev M_X10_status 218 218 _ 0 218 rho σ [(2, (0 : Int)), (0, x1)] []
  refine ev_iload_n dX10_status_0 rfl ?_
  refine ev_bipush dX10_status_1 (by decide) (by decide) ?_
  refine ev_icmp_lt (tgt := 22) dX10_status_3 rfl h (fun cb h => ?_) (fun cb h => ?_)
  · exact ev_sub (L2 := [(2, (0 : Int)), (0, x1)]) (e_X10_status_22 σ x1 h) ⟨.inr rfl, .inr rfl, trivial⟩
  refine ev_iload_n dX10_status_6 rfl ?_
  refine ev_bipush dX10_status_7 (by decide) (by decide) ?_
  refine ev_icmp_ge (tgt := 22) dX10_status_9 rfl h (fun cb h => ?_) (fun cb h => ?_)
  · exact ev_sub (L2 := [(2, (0 : Int)), (0, x1)]) (e_X10_status_22 σ x1 h) ⟨.inr rfl, .inr rfl, trivial⟩
  refine ev_aload_n dX10_status_12 rfl (by decide) ?_
  refine ev_getf (j := 6) (t := 2) (x := (34 : Int)) dX10_status_13 cf_X10 wf_X10_36 sp0 (by decide) (by decide) rfl (by decide) (rp0_6 _) ?_
  refine ev_iload_n dX10_status_16 rfl ?_
  refine ev_bipush dX10_status_17 (by decide) (by decide) ?_
  refine ev_isub dX10_status_19 ?_
  refine ev_iald dX10_status_20 sp34 (by decide) (by decide) h (fun h => ?_)
  obtain rfl := Option.some.inj h
  dsimp only
  exact ev_iret dX10_status_21 rfl rfl
set_option maxHeartbeats 4000000 in
set_option maxRecDepth 20000 in
theorem c_X11_isIn {σ : Mem} {x0 x2 x4 : Int}  {q : Int} (h : f_X11_isIn σ x0 x2 x4 = some q) : Ms yX11_isIn M_X11_isIn 218 218 [(1, x0), (1, x2), (1, x4)] rho σ (some (0, q), rho, σ) := by
  refine Ms.of 0 (by decide +kernel) rfl (fun z => absurd z (by decide)) (fun _ _ _ => trivial) rfl rfl ?_
  unfold f_X11_isIn at h
  show Ev M_X11_isIn 218 218 _ 0 218 rho σ [(1, x0), (9, 0), (1, x2), (9, 0), (1, x4), (9, 0)] []
  refine ev_lload_n dX11_isIn_0 rfl ?_
  refine ev_lload_n dX11_isIn_1 rfl ?_
  refine ev_lc_lt (tgt := 17) dX11_isIn_2 dX11_isIn_3 rfl h (fun cb h => ?_) (fun cb h => ?_)
  · refine ev_iconst dX11_isIn_17 (by decide) ?_
    obtain rfl := Option.some.inj h
    exact ev_zret dX11_isIn_18 rfl (chk_pos (.inl rfl))
  refine ev_lload_n dX11_isIn_6 rfl ?_
  refine ev_lload dX11_isIn_7 rfl ?_
  refine ev_lc_gt (tgt := 17) dX11_isIn_9 dX11_isIn_10 rfl h (fun cb h => ?_) (fun cb h => ?_)
  · refine ev_iconst dX11_isIn_17 (by decide) ?_
    obtain rfl := Option.some.inj h
    exact ev_zret dX11_isIn_18 rfl (chk_pos (.inl rfl))
  refine ev_iconst dX11_isIn_13 (by decide) ?_
  refine ev_goto (tgt := 18) dX11_isIn_14 rfl ?_
  obtain rfl := Option.some.inj h
  exact ev_zret dX11_isIn_18 rfl (chk_pos (.inr rfl))
set_option maxHeartbeats 4000000 in
set_option maxRecDepth 20000 in
theorem c_X11_no {σ : Mem} {x1 : Int}  {q : (Int × Mem)} (h : f_X11_no σ x1 = some q) : Ms yX11_no M_X11_no 218 218 [(2, (181 : Int)), (0, x1)] rho σ (some (0, q.1), rho, q.2) := by
  refine Ms.of 0 (by decide +kernel) rfl (fun z => absurd z (by decide)) (fun _ _ _ => trivial) rfl rfl ?_
  unfold f_X11_no at h
  show Ev M_X11_no 218 218 _ 0 218 rho σ [(2, (181 : Int)), (0, x1)] []
  refine ev_aload_n dX11_no_0 rfl (by decide) ?_
  refine ev_getf (j := 3) (t := 2) (x := (184 : Int)) dX11_no_1 cf_X11 wf_X11_16 sp181 (by decide) (by decide) rfl (by decide) (rp181_3 _) ?_
  refine ev_bipush dX11_no_4 (by decide) (by decide) ?_
  refine ev_iload_n dX11_no_6 rfl ?_
  refine ev_isub dX11_no_7 ?_
  refine ev_dup2 dX11_no_8 (show (0 : Nat) ≠ 1 by decide) (show (2 : Nat) ≠ 1 by decide) ?_
  refine ev_iald dX11_no_9 sp184 (by decide) (by decide) h (fun h => ?_)
  refine ev_iconst dX11_no_10 (by decide) ?_
  refine ev_iadd dX11_no_11 ?_
  refine ev_iastG dX11_no_12 sp184 (by decide) (by decide) h (fun σ1 h => ?_)
  refine ev_iload_n dX11_no_13 rfl ?_
  show Ev _ _ _ _ 14 _ _ _ _ _
  obtain rfl := Option.some.inj h
  dsimp only
  exact ev_iret dX11_no_14 rfl rfl
set_option maxHeartbeats 4000000 in
set_option maxRecDepth 20000 in
theorem c_X11_isPaper {σ : Mem} {x1 : Int}  {q : Int} (h : f_X11_isPaper σ x1 = some q) : Ms yX11_isPaper M_X11_isPaper 218 218 [(2, (181 : Int)), (0, x1)] rho σ (some (0, q), rho, σ) := by
  refine Ms.of 0 (by decide +kernel) rfl (fun z => absurd z (by decide)) (fun _ _ _ => trivial) rfl rfl ?_
  unfold f_X11_isPaper at h
  show Ev M_X11_isPaper 218 218 _ 0 218 rho σ [(2, (181 : Int)), (0, x1)] []
  refine ev_iload_n dX11_isPaper_0 rfl ?_
  refine ev_i2lk dX11_isPaper_1 ?_
  refine ev_lconst (x := (0 : Int)) dX11_isPaper_2 (by decide) (by decide) ?_
  refine ev_aload_n dX11_isPaper_3 rfl (by decide) ?_
  refine ev_getf (j := 0) (t := 2) (x := (182 : Int)) dX11_isPaper_4 cf_X11 wf_X11_7 sp181 (by decide) (by decide) rfl (by decide) (rp181_0 _) ?_
  refine ev_bipush dX11_isPaper_7 (by decide) (by decide) ?_
  refine ev_iald dX11_isPaper_9 sp182 (by decide) (by decide) h (fun h => ?_)
  refine ev_iconst dX11_isPaper_10 (by decide) ?_
  refine ev_isub dX11_isPaper_11 ?_
  refine ev_i2lk dX11_isPaper_12 ?_
  obtain ⟨v1, hc2, h⟩ := bind_of h
  refine ev_invS_v (av := [(1, x1), (1, (0 : Int)), (1, (jsub (σ (182 : Int) (82 : Int)) (1 : Int)))]) (st := []) (v := (0, v1)) (τ := σ) dX11_isPaper_13 ml_X11_120 mt_X11_isIn rfl ⟨Nat.le_of_ble_eq_true rfl, Nat.le_of_ble_eq_true rfl⟩ (Nat.le_of_ble_eq_true rfl) (c_X11_isIn hc2) ?_
  show Ev _ _ _ _ 16 _ _ _ _ _
  obtain ⟨hz, h⟩ := chk_of h
  obtain rfl := Option.some.inj h
  exact ev_zret dX11_isPaper_16 rfl (chk_pos hz)
set_option maxHeartbeats 4000000 in
set_option maxRecDepth 20000 in
theorem c_X11_isCand {σ : Mem} {x1 : Int}  {q : Int} (h : f_X11_isCand σ x1 = some q) : Ms yX11_isCand M_X11_isCand 218 218 [(2, (181 : Int)), (0, x1)] rho σ (some (0, q), rho, σ) := by
  refine Ms.of 0 (by decide +kernel) rfl (fun z => absurd z (by decide)) (fun _ _ _ => trivial) rfl rfl ?_
  unfold f_X11_isCand at h
  show Ev M_X11_isCand 218 218 _ 0 218 rho σ [(2, (181 : Int)), (0, x1)] []
  refine ev_iload_n dX11_isCand_0 rfl ?_
  refine ev_i2lk dX11_isCand_1 ?_
  refine ev_lconst (x := (0 : Int)) dX11_isCand_2 (by decide) (by decide) ?_
  refine ev_aload_n dX11_isCand_3 rfl (by decide) ?_
  refine ev_getf (j := 0) (t := 2) (x := (182 : Int)) dX11_isCand_4 cf_X11 wf_X11_7 sp181 (by decide) (by decide) rfl (by decide) (rp181_0 _) ?_
  refine ev_bipush dX11_isCand_7 (by decide) (by decide) ?_
  refine ev_iald dX11_isCand_9 sp182 (by decide) (by decide) h (fun h => ?_)
  refine ev_iconst dX11_isCand_10 (by decide) ?_
  refine ev_isub dX11_isCand_11 ?_
  refine ev_i2lk dX11_isCand_12 ?_
  obtain ⟨v1, hc2, h⟩ := bind_of h
  refine ev_invS_v (av := [(1, x1), (1, (0 : Int)), (1, (jsub (σ (182 : Int) (83 : Int)) (1 : Int)))]) (st := []) (v := (0, v1)) (τ := σ) dX11_isCand_13 ml_X11_120 mt_X11_isIn rfl ⟨Nat.le_of_ble_eq_true rfl, Nat.le_of_ble_eq_true rfl⟩ (Nat.le_of_ble_eq_true rfl) (c_X11_isIn hc2) ?_
  show Ev _ _ _ _ 16 _ _ _ _ _
  obtain ⟨hz, h⟩ := chk_of h
  obtain rfl := Option.some.inj h
  exact ev_zret dX11_isCand_16 rfl (chk_pos hz)
set_option maxHeartbeats 4000000 in
set_option maxRecDepth 20000 in
theorem c_X11_isDay {σ : Mem} {x0 : Int}  {q : Int} (h : f_X11_isDay σ x0 = some q) : Ms yX11_isDay M_X11_isDay 218 218 [(0, x0)] rho σ (some (0, q), rho, σ) := by
  refine Ms.of 0 (by decide +kernel) rfl (fun z => absurd z (by decide)) (fun _ _ _ => trivial) rfl rfl ?_
  unfold f_X11_isDay at h
  show Ev M_X11_isDay 218 218 _ 0 218 rho σ [(0, x0)] []
  refine ev_iload_n dX11_isDay_0 rfl ?_
  refine ev_i2lk dX11_isDay_1 ?_
  refine ev_lconst (x := (0 : Int)) dX11_isDay_2 (by decide) (by decide) ?_
  refine ev_ldc2 (x := (4 : Int)) dX11_isDay_3 wc_X11_124 (by decide) (by decide) ?_
  obtain ⟨v1, hc2, h⟩ := bind_of h
  refine ev_invS_v (av := [(1, x0), (1, (0 : Int)), (1, (4 : Int))]) (st := []) (v := (0, v1)) (τ := σ) dX11_isDay_6 ml_X11_120 mt_X11_isIn rfl ⟨Nat.le_of_ble_eq_true rfl, Nat.le_of_ble_eq_true rfl⟩ (Nat.le_of_ble_eq_true rfl) (c_X11_isIn hc2) ?_
  obtain ⟨hz, h⟩ := chk_of h
  obtain rfl := Option.some.inj h
  exact ev_zret dX11_isDay_9 rfl (chk_pos hz)
set_option maxHeartbeats 4000000 in
set_option maxRecDepth 20000 in
theorem c_X11_isSlot {σ : Mem} {x0 : Int}  {q : Int} (h : f_X11_isSlot σ x0 = some q) : Ms yX11_isSlot M_X11_isSlot 218 218 [(0, x0)] rho σ (some (0, q), rho, σ) := by
  refine Ms.of 0 (by decide +kernel) rfl (fun z => absurd z (by decide)) (fun _ _ _ => trivial) rfl rfl ?_
  unfold f_X11_isSlot at h
  show Ev M_X11_isSlot 218 218 _ 0 218 rho σ [(0, x0)] []
  refine ev_iload_n dX11_isSlot_0 rfl ?_
  refine ev_i2lk dX11_isSlot_1 ?_
  refine ev_lconst (x := (0 : Int)) dX11_isSlot_2 (by decide) (by decide) ?_
  refine ev_ldc2 (x := (47 : Int)) dX11_isSlot_3 wc_X11_126 (by decide) (by decide) ?_
  obtain ⟨v1, hc2, h⟩ := bind_of h
  refine ev_invS_v (av := [(1, x0), (1, (0 : Int)), (1, (47 : Int))]) (st := []) (v := (0, v1)) (τ := σ) dX11_isSlot_6 ml_X11_120 mt_X11_isIn rfl ⟨Nat.le_of_ble_eq_true rfl, Nat.le_of_ble_eq_true rfl⟩ (Nat.le_of_ble_eq_true rfl) (c_X11_isIn hc2) ?_
  obtain ⟨hz, h⟩ := chk_of h
  obtain rfl := Option.some.inj h
  exact ev_zret dX11_isSlot_9 rfl (chk_pos hz)
set_option maxHeartbeats 4000000 in
set_option maxRecDepth 20000 in
theorem c_X11_day {σ : Mem} {x1 : Int}  {q : Int} (h : f_X11_day σ x1 = some q) : Ms yX11_day M_X11_day 218 218 [(2, (181 : Int)), (0, x1)] rho σ (some (0, q), rho, σ) := by
  refine Ms.of 0 (by decide +kernel) rfl (fun z => absurd z (by decide)) (fun _ _ _ => trivial) rfl rfl ?_
  unfold f_X11_day at h
  show Ev M_X11_day 218 218 _ 0 218 rho σ [(2, (181 : Int)), (0, x1)] []
  refine ev_aload_n dX11_day_0 rfl (by decide) ?_
  refine ev_getf (j := 0) (t := 2) (x := (182 : Int)) dX11_day_1 cf_X11 wf_X11_7 sp181 (by decide) (by decide) rfl (by decide) (rp181_0 _) ?_
  refine ev_iconst dX11_day_4 (by decide) ?_
  refine ev_iconst dX11_day_5 (by decide) ?_
  refine ev_iload_n dX11_day_6 rfl ?_
  refine ev_imul dX11_day_7 ?_
  refine ev_iadd dX11_day_8 ?_
  refine ev_iald dX11_day_9 sp182 (by decide) (by decide) h (fun h => ?_)
  obtain rfl := Option.some.inj h
  exact ev_iret dX11_day_10 rfl rfl
set_option maxHeartbeats 4000000 in
set_option maxRecDepth 20000 in
theorem c_X11_start {σ : Mem} {x1 : Int}  {q : Int} (h : f_X11_start σ x1 = some q) : Ms yX11_start M_X11_start 218 218 [(2, (181 : Int)), (0, x1)] rho σ (some (0, q), rho, σ) := by
  refine Ms.of 0 (by decide +kernel) rfl (fun z => absurd z (by decide)) (fun _ _ _ => trivial) rfl rfl ?_
  unfold f_X11_start at h
  show Ev M_X11_start 218 218 _ 0 218 rho σ [(2, (181 : Int)), (0, x1)] []
  refine ev_aload_n dX11_start_0 rfl (by decide) ?_
  refine ev_getf (j := 0) (t := 2) (x := (182 : Int)) dX11_start_1 cf_X11 wf_X11_7 sp181 (by decide) (by decide) rfl (by decide) (rp181_0 _) ?_
  refine ev_iconst dX11_start_4 (by decide) ?_
  refine ev_iconst dX11_start_5 (by decide) ?_
  refine ev_iload_n dX11_start_6 rfl ?_
  refine ev_imul dX11_start_7 ?_
  refine ev_iadd dX11_start_8 ?_
  refine ev_iconst dX11_start_9 (by decide) ?_
  refine ev_iadd dX11_start_10 ?_
  refine ev_iald dX11_start_11 sp182 (by decide) (by decide) h (fun h => ?_)
  obtain rfl := Option.some.inj h
  exact ev_iret dX11_start_12 rfl rfl
set_option maxHeartbeats 4000000 in
set_option maxRecDepth 20000 in
theorem c_X11_length {σ : Mem} {x1 : Int}  {q : Int} (h : f_X11_length σ x1 = some q) : Ms yX11_length M_X11_length 218 218 [(2, (181 : Int)), (0, x1)] rho σ (some (0, q), rho, σ) := by
  refine Ms.of 0 (by decide +kernel) rfl (fun z => absurd z (by decide)) (fun _ _ _ => trivial) rfl rfl ?_
  unfold f_X11_length at h
  show Ev M_X11_length 218 218 _ 0 218 rho σ [(2, (181 : Int)), (0, x1)] []
  refine ev_aload_n dX11_length_0 rfl (by decide) ?_
  refine ev_getf (j := 0) (t := 2) (x := (182 : Int)) dX11_length_1 cf_X11 wf_X11_7 sp181 (by decide) (by decide) rfl (by decide) (rp181_0 _) ?_
  refine ev_iconst dX11_length_4 (by decide) ?_
  refine ev_iconst dX11_length_5 (by decide) ?_
  refine ev_iload_n dX11_length_6 rfl ?_
  refine ev_imul dX11_length_7 ?_
  refine ev_iadd dX11_length_8 ?_
  refine ev_iconst dX11_length_9 (by decide) ?_
  refine ev_iadd dX11_length_10 ?_
  refine ev_iald dX11_length_11 sp182 (by decide) (by decide) h (fun h => ?_)
  obtain rfl := Option.some.inj h
  exact ev_iret dX11_length_12 rfl rfl
set_option maxHeartbeats 4000000 in
set_option maxRecDepth 20000 in
theorem c_X11_who {σ : Mem} {x1 x2 : Int}  {q : Int} (h : f_X11_who σ x1 x2 = some q) : Ms yX11_who M_X11_who 218 218 [(2, (181 : Int)), (0, x1), (0, x2)] rho σ (some (0, q), rho, σ) := by
  refine Ms.of 0 (by decide +kernel) rfl (fun z => absurd z (by decide)) (fun _ _ _ => trivial) rfl rfl ?_
  unfold f_X11_who at h
  show Ev M_X11_who 218 218 _ 0 218 rho σ [(2, (181 : Int)), (0, x1), (0, x2)] []
  refine ev_aload_n dX11_who_0 rfl (by decide) ?_
  refine ev_getf (j := 0) (t := 2) (x := (182 : Int)) dX11_who_1 cf_X11 wf_X11_7 sp181 (by decide) (by decide) rfl (by decide) (rp181_0 _) ?_
  refine ev_bipush dX11_who_4 (by decide) (by decide) ?_
  refine ev_iconst dX11_who_6 (by decide) ?_
  refine ev_iload_n dX11_who_7 rfl ?_
  refine ev_imul dX11_who_8 ?_
  refine ev_iadd dX11_who_9 ?_
  refine ev_iload_n dX11_who_10 rfl ?_
  refine ev_iadd dX11_who_11 ?_
  refine ev_iald dX11_who_12 sp182 (by decide) (by decide) h (fun h => ?_)
  obtain rfl := Option.some.inj h
  exact ev_iret dX11_who_13 rfl rfl
set_option maxHeartbeats 4000000 in
set_option maxRecDepth 20000 in
theorem c_X11_has {σ : Mem} {x1 x2 : Int}  {q : Int} (h : f_X11_has σ x1 x2 = some q) : Ms yX11_has M_X11_has 218 218 [(2, (181 : Int)), (0, x1), (0, x2)] rho σ (some (0, q), rho, σ) := by
  refine Ms.of 0 (by decide +kernel) rfl (fun z => absurd z (by decide)) (fun _ _ _ => trivial) rfl rfl ?_
  unfold f_X11_has at h
  show Ev M_X11_has 218 218 _ 0 218 rho σ [(2, (181 : Int)), (0, x1), (0, x2)] []
  refine ev_aload_n dX11_has_0 rfl (by decide) ?_
  refine ev_iload_n dX11_has_1 rfl ?_
  refine ev_iconst dX11_has_2 (by decide) ?_
  obtain ⟨v1, hc2, h⟩ := bind_of h
  refine ev_invV_v (k := (181 : Int)) (av := [(0, x1), (0, (3 : Int))]) (st := []) (v := (0, v1)) (τ := σ) dX11_has_3 ml_X11_128 mv_X11_who (T := TX11) (ci := 10) rfl sp181 (by decide) (by decide) rfl ⟨Nat.le_of_ble_eq_true rfl, Nat.le_of_ble_eq_true rfl⟩ (Nat.le_of_ble_eq_true rfl) (c_X11_who hc2) ?_
  refine ev_iload_n dX11_has_6 rfl ?_
  refine ev_ishr dX11_has_7 ?_
  refine ev_iconst dX11_has_8 (by decide) ?_
  refine ev_iand dX11_has_9 ?_
  refine ev_iconst dX11_has_10 (by decide) ?_
  refine ev_icmp_ne (tgt := 18) dX11_has_11 rfl h (fun cb h => ?_) (fun cb h => ?_)
  · refine ev_iconst dX11_has_18 (by decide) ?_
    obtain rfl := Option.some.inj h
    exact ev_zret dX11_has_19 rfl (chk_pos (.inl rfl))
  refine ev_iconst dX11_has_14 (by decide) ?_
  refine ev_goto (tgt := 19) dX11_has_15 rfl ?_
  obtain rfl := Option.some.inj h
  exact ev_zret dX11_has_19 rfl (chk_pos (.inr rfl))
def K_X11_many_4 (σ : Mem) (x0 : Int) (r : Option V × Mem × Mem) : (Int × Int) ⊕ ((Int)) → Prop := Sum.elim (fun a => Ev M_X11_many 218 218 r 4 218 rho σ [(0, x0), (0, a.1), (0, a.2)] []) (fun e => Ev M_X11_many 218 218 r 24 218 rho σ [(9, 0), (0, e), (9, 0)] [])
set_option maxHeartbeats 4000000 in
set_option maxRecDepth 20000 in
theorem b_X11_many_4 (σ : Mem) (x0 : Int)  {r : Option V × Mem × Mem} : ∀ a x, f_X11_many_4B σ x0 a = some x → K_X11_many_4 σ x0 r x → K_X11_many_4 σ x0 r (.inl a) := by
  intro a x h K
  obtain ⟨x1, x2⟩ := a
  have h : f_X11_many_4C σ x0 x1 x2 = some x := h
  unfold f_X11_many_4C at h
  show Ev M_X11_many 218 218 r 4 218 rho σ [(0, x0), (0, x1), (0, x2)] []
  refine ev_iload_n dX11_many_4 rfl ?_
  refine ev_bipush dX11_many_5 (by decide) (by decide) ?_
  refine ev_icmp_ge (tgt := 24) dX11_many_7 rfl h (fun cb h => ?_) (fun cb h => ?_)
  · obtain rfl := Option.some.inj h
    exact ev_sub (L2 := [(9, 0), (0, x1), (9, 0)]) K ⟨.inl rfl, .inr rfl, .inl rfl, trivial⟩
  refine ev_iload_n dX11_many_10 rfl ?_
  refine ev_iload_n dX11_many_11 rfl ?_
  refine ev_iload_n dX11_many_12 rfl ?_
  refine ev_ishr dX11_many_13 ?_
  refine ev_iconst dX11_many_14 (by decide) ?_
  refine ev_iand dX11_many_15 ?_
  refine ev_iadd dX11_many_16 ?_
  refine ev_istore_nG dX11_many_17 h rfl (by decide) (fun v1 h => ?_)
  show Ev _ _ _ _ 18 _ _ _ [(0, x0), (0, v1), (0, x2)] _
  refine ev_iincG dX11_many_18 rfl h rfl (fun v2 h => ?_)
  show Ev _ _ _ _ 21 _ _ _ [(0, x0), (0, v1), (0, v2)] _
  refine ev_goto (tgt := 4) dX11_many_21 rfl ?_
  obtain rfl := Option.some.inj h
  exact ev_sub (L2 := [(0, x0), (0, v1), (0, v2)]) K ⟨.inr rfl, .inr rfl, .inr rfl, trivial⟩
set_option maxHeartbeats 4000000 in
set_option maxRecDepth 20000 in
theorem e_X11_many_4 (σ : Mem) (x0 x1 x2 : Int)  {q : Int} (h : f_X11_many_4 σ x0 x1 x2 = some q) : Ev M_X11_many 218 218 (some (0, q), rho, σ) 4 218 rho σ [(0, x0), (0, x1), (0, x2)] [] := by
  unfold f_X11_many_4 at h
  obtain ⟨e, hl, h⟩ := bind_of h
  refine loop_ev (K := K_X11_many_4 σ x0 (some (0, q), rho, σ)) (b_X11_many_4 σ x0) FU (x1, x2) e hl ?_
  show Ev M_X11_many 218 218 _ 24 218 rho σ [(9, 0), (0, e), (9, 0)] []
  replace h : some e = some q := h
  refine ev_iload_n dX11_many_24 rfl ?_
  obtain rfl := Option.some.inj h
  exact ev_iret dX11_many_25 rfl rfl
set_option maxHeartbeats 4000000 in
set_option maxRecDepth 20000 in
theorem c_X11_many {σ : Mem} {x0 : Int}  {q : Int} (h : f_X11_many σ x0 = some q) : Ms yX11_many M_X11_many 218 218 [(0, x0)] rho σ (some (0, q), rho, σ) := by
  refine Ms.of 2 (by decide +kernel) rfl (fun z => absurd z (by decide)) (fun _ _ _ => trivial) rfl rfl ?_
  unfold f_X11_many at h
  show Ev M_X11_many 218 218 _ 0 218 rho σ [(0, x0), (9, 0), (9, 0)] []
  refine ev_iconst dX11_many_0 (by decide) ?_
  refine ev_istore_n dX11_many_1 rfl (by decide) ?_
  show Ev _ _ _ _ 2 _ _ _ [(0, x0), (0, (0 : Int)), (9, 0)] _
  refine ev_iconst dX11_many_2 (by decide) ?_
  refine ev_istore_n dX11_many_3 rfl (by decide) ?_
  show Ev _ _ _ _ 4 _ _ _ [(0, x0), (0, (0 : Int)), (0, (0 : Int))] _
  exact ev_sub (L2 := [(0, x0), (0, (0 : Int)), (0, (0 : Int))]) (e_X11_many_4 σ x0 (0 : Int) (0 : Int) h) ⟨.inr rfl, .inr rfl, .inr rfl, trivial⟩
set_option maxHeartbeats 4000000 in
set_option maxRecDepth 20000 in
theorem c_X11_timeOf {σ : Mem} {x0 x1 x2 : Int}  {q : Int} (h : f_X11_timeOf σ x0 x1 x2 = some q) : Ms yX11_timeOf M_X11_timeOf 218 218 [(0, x0), (0, x1), (0, x2)] rho σ (some (0, q), rho, σ) := by
  refine Ms.of 1 (by decide +kernel) rfl (fun z => absurd z (by decide)) (fun _ _ _ => trivial) rfl rfl ?_
  unfold f_X11_timeOf at h
  show Ev M_X11_timeOf 218 218 _ 0 218 rho σ [(0, x0), (0, x1), (0, x2), (9, 0)] []
  refine ev_iload_n dX11_timeOf_0 rfl ?_
  refine ev_iload_n dX11_timeOf_1 rfl ?_
  refine ev_iload_n dX11_timeOf_2 rfl ?_
  refine ev_imul dX11_timeOf_3 ?_
  refine ev_bipush dX11_timeOf_4 (by decide) (by decide) ?_
  refine ev_iadd dX11_timeOf_6 ?_
  refine ev_bipush dX11_timeOf_7 (by decide) (by decide) ?_
  refine ev_idiv dX11_timeOf_9 h (fun h => ?_)
  refine ev_iadd dX11_timeOf_10 ?_
  refine ev_istore_nG dX11_timeOf_11 h rfl (by decide) (fun v1 h => ?_)
  show Ev _ _ _ _ 12 _ _ _ [(0, x0), (0, x1), (0, x2), (0, v1)] _
  refine ev_iload_n dX11_timeOf_12 rfl ?_
  show Ev _ _ _ _ 13 _ _ _ _ _
  refine ev_iconst dX11_timeOf_13 (by decide) ?_
  refine ev_icmp_ne (tgt := 21) dX11_timeOf_14 rfl h (fun cb h => ?_) (fun cb h => ?_)
  · refine ev_iload_n dX11_timeOf_21 rfl ?_
    refine ev_iconst dX11_timeOf_22 (by decide) ?_
    refine ev_icmp_ne (tgt := 32) dX11_timeOf_23 rfl h (fun cb h => ?_) (fun cb h => ?_)
    · refine ev_iload_n dX11_timeOf_32 rfl ?_
      refine ev_iconst dX11_timeOf_33 (by decide) ?_
      refine ev_icmp_ne (tgt := 43) dX11_timeOf_34 rfl h (fun cb h => ?_) (fun cb h => ?_)
      · refine ev_iload_n dX11_timeOf_43 rfl ?_
        obtain rfl := Option.some.inj h
        exact ev_iret dX11_timeOf_44 rfl rfl
      refine ev_iload_n dX11_timeOf_37 rfl ?_
      refine ev_iconst dX11_timeOf_38 (by decide) ?_
      refine ev_iadd dX11_timeOf_39 ?_
      refine ev_goto (tgt := 44) dX11_timeOf_40 rfl ?_
      obtain rfl := Option.some.inj h
      exact ev_iret dX11_timeOf_44 rfl rfl
    refine ev_iload_n dX11_timeOf_26 rfl ?_
    refine ev_iconst dX11_timeOf_27 (by decide) ?_
    refine ev_iadd dX11_timeOf_28 ?_
    refine ev_goto (tgt := 44) dX11_timeOf_29 rfl ?_
    obtain rfl := Option.some.inj h
    exact ev_iret dX11_timeOf_44 rfl rfl
  refine ev_iload_n dX11_timeOf_17 rfl ?_
  refine ev_goto (tgt := 44) dX11_timeOf_18 rfl ?_
  obtain rfl := Option.some.inj h
  exact ev_iret dX11_timeOf_44 rfl rfl
set_option maxHeartbeats 4000000 in
set_option maxRecDepth 20000 in
theorem c_X11_restOf {σ : Mem} {x0 x1 : Int}  {q : Int} (h : f_X11_restOf σ x0 x1 = some q) : Ms yX11_restOf M_X11_restOf 218 218 [(0, x0), (0, x1)] rho σ (some (0, q), rho, σ) := by
  refine Ms.of 1 (by decide +kernel) rfl (fun z => absurd z (by decide)) (fun _ _ _ => trivial) rfl rfl ?_
  unfold f_X11_restOf at h
  show Ev M_X11_restOf 218 218 _ 0 218 rho σ [(0, x0), (0, x1), (9, 0)] []
  refine ev_iconst dX11_restOf_0 (by decide) ?_
  refine ev_iload_n dX11_restOf_1 rfl ?_
  refine ev_iconst dX11_restOf_2 (by decide) ?_
  refine ev_idiv dX11_restOf_3 h (fun h => ?_)
  refine ev_iadd dX11_restOf_4 ?_
  refine ev_istore_nG dX11_restOf_5 h rfl (by decide) (fun v1 h => ?_)
  show Ev _ _ _ _ 6 _ _ _ [(0, x0), (0, x1), (0, v1)] _
  refine ev_iload_n dX11_restOf_6 rfl ?_
  refine ev_iconst dX11_restOf_7 (by decide) ?_
  refine ev_icmp_ne (tgt := 15) dX11_restOf_8 rfl h (fun cb h => ?_) (fun cb h => ?_)
  · refine ev_iload_n dX11_restOf_15 rfl ?_
    refine ev_iconst dX11_restOf_16 (by decide) ?_
    refine ev_icmp_ne (tgt := 26) dX11_restOf_17 rfl h (fun cb h => ?_) (fun cb h => ?_)
    · refine ev_iload_n dX11_restOf_26 rfl ?_
      refine ev_iconst dX11_restOf_27 (by decide) ?_
      refine ev_icmp_ne (tgt := 35) dX11_restOf_28 rfl h (fun cb h => ?_) (fun cb h => ?_)
      · refine ev_iconst dX11_restOf_35 (by decide) ?_
        obtain rfl := Option.some.inj h
        exact ev_iret dX11_restOf_36 rfl rfl
      refine ev_iconst dX11_restOf_31 (by decide) ?_
      refine ev_goto (tgt := 36) dX11_restOf_32 rfl ?_
      obtain rfl := Option.some.inj h
      exact ev_iret dX11_restOf_36 rfl rfl
    refine ev_iconst dX11_restOf_20 (by decide) ?_
    refine ev_iload_n dX11_restOf_21 rfl ?_
    refine ev_imul dX11_restOf_22 ?_
    refine ev_goto (tgt := 36) dX11_restOf_23 rfl ?_
    obtain rfl := Option.some.inj h
    exact ev_iret dX11_restOf_36 rfl rfl
  refine ev_iload_n dX11_restOf_11 rfl ?_
  refine ev_goto (tgt := 36) dX11_restOf_12 rfl ?_
  obtain rfl := Option.some.inj h
  exact ev_iret dX11_restOf_36 rfl rfl
set_option maxHeartbeats 4000000 in
set_option maxRecDepth 20000 in
theorem c_X11_timed {σ : Mem} {x1 x2 : Int}  {q : Int} (h : f_X11_timed σ x1 x2 = some q) : Ms yX11_timed M_X11_timed 218 218 [(2, (181 : Int)), (0, x1), (0, x2)] rho σ (some (0, q), rho, σ) := by
  refine Ms.of 0 (by decide +kernel) rfl (fun z => absurd z (by decide)) (fun _ _ _ => trivial) rfl rfl ?_
  unfold f_X11_timed at h
  show Ev M_X11_timed 218 218 _ 0 218 rho σ [(2, (181 : Int)), (0, x1), (0, x2)] []
  refine ev_aload_n dX11_timed_0 rfl (by decide) ?_
  refine ev_iload_n dX11_timed_1 rfl ?_
  refine ev_iconst dX11_timed_2 (by decide) ?_
  obtain ⟨v1, hc2, h⟩ := bind_of h
  refine ev_invV_v (k := (181 : Int)) (av := [(0, x1), (0, (0 : Int))]) (st := []) (v := (0, v1)) (τ := σ) dX11_timed_3 ml_X11_128 mv_X11_who (T := TX11) (ci := 10) rfl sp181 (by decide) (by decide) rfl ⟨Nat.le_of_ble_eq_true rfl, Nat.le_of_ble_eq_true rfl⟩ (Nat.le_of_ble_eq_true rfl) (c_X11_who hc2) ?_
  refine ev_aload_n dX11_timed_6 rfl (by decide) ?_
  refine ev_iload_n dX11_timed_7 rfl ?_
  refine ev_iconst dX11_timed_8 (by decide) ?_
  obtain ⟨v3, hc4, h⟩ := bind_of h
  refine ev_invV_v (k := (181 : Int)) (av := [(0, x1), (0, (1 : Int))]) (st := [(0, v1)]) (v := (0, v3)) (τ := σ) dX11_timed_9 ml_X11_128 mv_X11_who (T := TX11) (ci := 10) rfl sp181 (by decide) (by decide) rfl ⟨Nat.le_of_ble_eq_true rfl, Nat.le_of_ble_eq_true rfl⟩ (Nat.le_of_ble_eq_true rfl) (c_X11_who hc4) ?_
  refine ev_aload_n dX11_timed_12 rfl (by decide) ?_
  refine ev_iload_n dX11_timed_13 rfl ?_
  obtain ⟨v5, hc6, h⟩ := bind_of h
  refine ev_invV_v (k := (181 : Int)) (av := [(0, x2)]) (st := [(0, v3), (0, v1)]) (v := (0, v5)) (τ := σ) dX11_timed_14 ml_X11_132 mv_X11_length (T := TX11) (ci := 10) rfl sp181 (by decide) (by decide) rfl ⟨Nat.le_of_ble_eq_true rfl, Nat.le_of_ble_eq_true rfl⟩ (Nat.le_of_ble_eq_true rfl) (c_X11_length hc6) ?_
  show Ev _ _ _ _ 17 _ _ _ _ _
  obtain ⟨v7, hc8, h⟩ := bind_of h
  refine ev_invS_v (av := [(0, v1), (0, v3), (0, v5)]) (st := []) (v := (0, v7)) (τ := σ) dX11_timed_17 ml_X11_136 mt_X11_timeOf rfl ⟨Nat.le_of_ble_eq_true rfl, Nat.le_of_ble_eq_true rfl⟩ (Nat.le_of_ble_eq_true rfl) (c_X11_timeOf hc8) ?_
  obtain rfl := Option.some.inj h
  exact ev_iret dX11_timed_20 rfl rfl
set_option maxHeartbeats 4000000 in
set_option maxRecDepth 20000 in
theorem c_X11_rest {σ : Mem} {x1 : Int}  {q : Int} (h : f_X11_rest σ x1 = some q) : Ms yX11_rest M_X11_rest 218 218 [(2, (181 : Int)), (0, x1)] rho σ (some (0, q), rho, σ) := by
  refine Ms.of 0 (by decide +kernel) rfl (fun z => absurd z (by decide)) (fun _ _ _ => trivial) rfl rfl ?_
  unfold f_X11_rest at h
  show Ev M_X11_rest 218 218 _ 0 218 rho σ [(2, (181 : Int)), (0, x1)] []
  refine ev_aload_n dX11_rest_0 rfl (by decide) ?_
  refine ev_iload_n dX11_rest_1 rfl ?_
  refine ev_iconst dX11_rest_2 (by decide) ?_
  obtain ⟨v1, hc2, h⟩ := bind_of h
  refine ev_invV_v (k := (181 : Int)) (av := [(0, x1), (0, (0 : Int))]) (st := []) (v := (0, v1)) (τ := σ) dX11_rest_3 ml_X11_128 mv_X11_who (T := TX11) (ci := 10) rfl sp181 (by decide) (by decide) rfl ⟨Nat.le_of_ble_eq_true rfl, Nat.le_of_ble_eq_true rfl⟩ (Nat.le_of_ble_eq_true rfl) (c_X11_who hc2) ?_
  refine ev_aload_n dX11_rest_6 rfl (by decide) ?_
  refine ev_iload_n dX11_rest_7 rfl ?_
  refine ev_iconst dX11_rest_8 (by decide) ?_
  obtain ⟨v3, hc4, h⟩ := bind_of h
  refine ev_invV_v (k := (181 : Int)) (av := [(0, x1), (0, (1 : Int))]) (st := [(0, v1)]) (v := (0, v3)) (τ := σ) dX11_rest_9 ml_X11_128 mv_X11_who (T := TX11) (ci := 10) rfl sp181 (by decide) (by decide) rfl ⟨Nat.le_of_ble_eq_true rfl, Nat.le_of_ble_eq_true rfl⟩ (Nat.le_of_ble_eq_true rfl) (c_X11_who hc4) ?_
  obtain ⟨v5, hc6, h⟩ := bind_of h
  refine ev_invS_v (av := [(0, v1), (0, v3)]) (st := []) (v := (0, v5)) (τ := σ) dX11_rest_12 ml_X11_140 mt_X11_restOf rfl ⟨Nat.le_of_ble_eq_true rfl, Nat.le_of_ble_eq_true rfl⟩ (Nat.le_of_ble_eq_true rfl) (c_X11_restOf hc6) ?_
  obtain rfl := Option.some.inj h
  exact ev_iret dX11_rest_15 rfl rfl
set_option maxHeartbeats 4000000 in
set_option maxRecDepth 20000 in
theorem c_X11_isShelf {σ : Mem} {x0 : Int}  {q : Int} (h : f_X11_isShelf σ x0 = some q) : Ms yX11_isShelf M_X11_isShelf 218 218 [(0, x0)] rho σ (some (0, q), rho, σ) := by
  refine Ms.of 0 (by decide +kernel) rfl (fun z => absurd z (by decide)) (fun _ _ _ => trivial) rfl rfl ?_
  unfold f_X11_isShelf at h
  show Ev M_X11_isShelf 218 218 _ 0 218 rho σ [(0, x0)] []
  refine ev_iload_n dX11_isShelf_0 rfl ?_
  refine ev_i2lk dX11_isShelf_1 ?_
  refine ev_lconst (x := (0 : Int)) dX11_isShelf_2 (by decide) (by decide) ?_
  refine ev_ldc2 (x := (7 : Int)) dX11_isShelf_3 wc_X11_143 (by decide) (by decide) ?_
  obtain ⟨v1, hc2, h⟩ := bind_of h
  refine ev_invS_v (av := [(1, x0), (1, (0 : Int)), (1, (7 : Int))]) (st := []) (v := (0, v1)) (τ := σ) dX11_isShelf_6 ml_X11_120 mt_X11_isIn rfl ⟨Nat.le_of_ble_eq_true rfl, Nat.le_of_ble_eq_true rfl⟩ (Nat.le_of_ble_eq_true rfl) (c_X11_isIn hc2) ?_
  obtain ⟨hz, h⟩ := chk_of h
  obtain rfl := Option.some.inj h
  exact ev_zret dX11_isShelf_9 rfl (chk_pos hz)
set_option maxHeartbeats 4000000 in
set_option maxRecDepth 20000 in
theorem c_X11_isRow {σ : Mem} {x1 : Int}  {q : Int} (h : f_X11_isRow σ x1 = some q) : Ms yX11_isRow M_X11_isRow 218 218 [(2, (181 : Int)), (0, x1)] rho σ (some (0, q), rho, σ) := by
  refine Ms.of 0 (by decide +kernel) rfl (fun z => absurd z (by decide)) (fun _ _ _ => trivial) rfl rfl ?_
  unfold f_X11_isRow at h
  show Ev M_X11_isRow 218 218 _ 0 218 rho σ [(2, (181 : Int)), (0, x1)] []
  refine ev_aload_n dX11_isRow_0 rfl (by decide) ?_
  refine ev_getf (j := 4) (t := 2) (x := (185 : Int)) dX11_isRow_1 cf_X11 wf_X11_19 sp181 (by decide) (by decide) rfl (by decide) (rp181_4 _) ?_
  refine ev_iload_n dX11_isRow_4 rfl ?_
  refine ev_iald dX11_isRow_5 sp185 (by decide) (by decide) h (fun h => ?_)
  refine ev_if_lt (tgt := 24) dX11_isRow_6 rfl h (fun cb h => ?_) (fun cb h => ?_)
  · refine ev_iconst dX11_isRow_24 (by decide) ?_
    obtain rfl := Option.some.inj h
    exact ev_zret dX11_isRow_25 rfl (chk_pos (.inl rfl))
  refine ev_aload_n dX11_isRow_9 rfl (by decide) ?_
  refine ev_getf (j := 4) (t := 2) (x := (185 : Int)) dX11_isRow_10 cf_X11 wf_X11_19 sp181 (by decide) (by decide) rfl (by decide) (rp181_4 _) ?_
  refine ev_iload_n dX11_isRow_13 rfl ?_
  refine ev_iald dX11_isRow_14 sp185 (by decide) (by decide) h (fun h => ?_)
  refine ev_bipush dX11_isRow_15 (by decide) (by decide) ?_
  refine ev_icmp_ge (tgt := 24) dX11_isRow_17 rfl h (fun cb h => ?_) (fun cb h => ?_)
  · refine ev_iconst dX11_isRow_24 (by decide) ?_
    obtain rfl := Option.some.inj h
    exact ev_zret dX11_isRow_25 rfl (chk_pos (.inl rfl))
  refine ev_iconst dX11_isRow_20 (by decide) ?_
  refine ev_goto (tgt := 25) dX11_isRow_21 rfl ?_
  obtain rfl := Option.some.inj h
  exact ev_zret dX11_isRow_25 rfl (chk_pos (.inr rfl))
def K_X11_row_55 (x1 : Int) (r : Option V × Mem × Mem) : (Int × Mem) ⊕ ((Mem)) → Prop := Sum.elim (fun a => Ev M_X11_row 218 218 r 55 218 rho a.2 [(2, (181 : Int)), (0, x1), (9, 0), (9, 0), (0, a.1)] []) (fun e => Ev M_X11_row 218 218 r 81 218 rho e [(9, 0), (9, 0), (9, 0), (9, 0), (9, 0)] [])
set_option maxHeartbeats 4000000 in
set_option maxRecDepth 20000 in
theorem e_X11_row_31 (σ : Mem)  {q : (Int × Mem)} (h : f_X11_row_31 σ  = some q) : Ev M_X11_row 218 218 (some (0, q.1), rho, q.2) 31 218 rho σ [(2, (181 : Int)), (9, 0), (9, 0), (9, 0), (9, 0)] [] := by
  unfold f_X11_row_31 at h
  refine ev_aload_n dX11_row_31 rfl (by decide) ?_
  refine ev_bipush dX11_row_32 (by decide) (by decide) ?_
  obtain ⟨v9, hc10, h⟩ := bind_of h
  refine ev_invV_v (k := (181 : Int)) (av := [(0, (-52 : Int))]) (st := []) (v := (0, v9.1)) (τ := v9.2) dX11_row_34 ml_X11_151 mv_X11_no (T := TX11) (ci := 10) rfl sp181 (by decide) (by decide) rfl ⟨Nat.le_of_ble_eq_true rfl, Nat.le_of_ble_eq_true rfl⟩ (Nat.le_of_ble_eq_true rfl) (c_X11_no hc10) ?_
  obtain rfl := Option.some.inj h
  dsimp only
  exact ev_iret dX11_row_37 rfl rfl
set_option maxHeartbeats 4000000 in
set_option maxRecDepth 20000 in
theorem b_X11_row_55 (x1 : Int)  {r : Option V × Mem × Mem} : ∀ a x, f_X11_row_55B x1 a = some x → K_X11_row_55 x1 r x → K_X11_row_55 x1 r (.inl a) := by
  intro a x h K
  obtain ⟨x4, σ⟩ := a
  have h : f_X11_row_55C x1 x4 σ = some x := h
  unfold f_X11_row_55C at h
  show Ev M_X11_row 218 218 r 55 218 rho σ [(2, (181 : Int)), (0, x1), (9, 0), (9, 0), (0, x4)] []
  refine ev_iload dX11_row_55 rfl ?_
  refine ev_bipush dX11_row_57 (by decide) (by decide) ?_
  refine ev_icmp_ge (tgt := 81) dX11_row_59 rfl h (fun cb h => ?_) (fun cb h => ?_)
  · obtain rfl := Option.some.inj h
    exact ev_sub (L2 := [(9, 0), (9, 0), (9, 0), (9, 0), (9, 0)]) K ⟨.inl rfl, .inl rfl, .inl rfl, .inl rfl, .inl rfl, trivial⟩
  refine ev_aload_n dX11_row_62 rfl (by decide) ?_
  refine ev_getf (j := 6) (t := 2) (x := (187 : Int)) dX11_row_63 cf_X11 wf_X11_25 sp181 (by decide) (by decide) rfl (by decide) (rp181_6 _) ?_
  refine ev_bipush dX11_row_66 (by decide) (by decide) ?_
  refine ev_iload_n dX11_row_68 rfl ?_
  refine ev_imul dX11_row_69 ?_
  refine ev_iload dX11_row_70 rfl ?_
  refine ev_iadd dX11_row_72 ?_
  refine ev_lconst (x := (0 : Int)) dX11_row_73 (by decide) (by decide) ?_
  refine ev_lastG dX11_row_74 sp187 (by decide) (by decide) h (fun σ11 h => ?_)
  refine ev_iincG dX11_row_75 rfl h rfl (fun v12 h => ?_)
  show Ev _ _ _ _ 78 _ _ _ [(2, (181 : Int)), (0, x1), (9, 0), (9, 0), (0, v12)] _
  refine ev_goto (tgt := 55) dX11_row_78 rfl ?_
  obtain rfl := Option.some.inj h
  exact ev_sub (L2 := [(2, (181 : Int)), (0, x1), (9, 0), (9, 0), (0, v12)]) K ⟨.inr rfl, .inr rfl, .inl rfl, .inl rfl, .inr rfl, trivial⟩
set_option maxHeartbeats 4000000 in
set_option maxRecDepth 20000 in
theorem e_X11_row_55 (σ : Mem) (x1 x4 : Int)  {q : (Int × Mem)} (h : f_X11_row_55 σ x1 x4 = some q) : Ev M_X11_row 218 218 (some (0, q.1), rho, q.2) 55 218 rho σ [(2, (181 : Int)), (0, x1), (9, 0), (9, 0), (0, x4)] [] := by
  unfold f_X11_row_55 at h
  obtain ⟨e, hl, h⟩ := bind_of h
  refine loop_ev (K := K_X11_row_55 x1 (some (0, q.1), rho, q.2)) (b_X11_row_55 x1) FU (x4, σ) e hl ?_
  show Ev M_X11_row 218 218 _ 81 218 rho e [(9, 0), (9, 0), (9, 0), (9, 0), (9, 0)] []
  replace h : some ((1 : Int), e) = some q := h
  refine ev_iconst dX11_row_81 (by decide) ?_
  obtain rfl := Option.some.inj h
  dsimp only
  exact ev_iret dX11_row_82 rfl rfl
set_option maxHeartbeats 4000000 in
set_option maxRecDepth 20000 in
theorem c_X11_row {σ : Mem} {x1 x2 x3 : Int}  {q : (Int × Mem)} (h : f_X11_row σ x1 x2 x3 = some q) : Ms yX11_row M_X11_row 218 218 [(2, (181 : Int)), (0, x1), (0, x2), (0, x3)] rho σ (some (0, q.1), rho, q.2) := by
  refine Ms.of 1 (by decide +kernel) rfl (fun z => absurd z (by decide)) (fun _ _ _ => trivial) rfl rfl ?_
  unfold f_X11_row at h
  show Ev M_X11_row 218 218 _ 0 218 rho σ [(2, (181 : Int)), (0, x1), (0, x2), (0, x3), (9, 0)] []
  refine ev_iload_n dX11_row_0 rfl ?_
  obtain ⟨v1, hc2, h⟩ := bind_of h
  refine ev_invS_v (av := [(0, x1)]) (st := []) (v := (0, v1)) (τ := σ) dX11_row_1 ml_X11_145 mt_X11_isShelf rfl ⟨Nat.le_of_ble_eq_true rfl, Nat.le_of_ble_eq_true rfl⟩ (Nat.le_of_ble_eq_true rfl) (c_X11_isShelf hc2) ?_
  refine ev_if_eq (tgt := 31) dX11_row_4 rfl h (fun cb h => ?_) (fun cb h => ?_)
  · exact ev_sub (L2 := [(2, (181 : Int)), (9, 0), (9, 0), (9, 0), (9, 0)]) (e_X11_row_31 σ h) ⟨.inr rfl, .inl rfl, .inl rfl, .inl rfl, .inl rfl, trivial⟩
  refine ev_iload_n dX11_row_7 rfl ?_
  refine ev_i2lk dX11_row_8 ?_
  refine ev_lconst (x := (0 : Int)) dX11_row_9 (by decide) (by decide) ?_
  refine ev_ldc2 (x := (4 : Int)) dX11_row_10 wc_X11_124 (by decide) (by decide) ?_
  obtain ⟨v3, hc4, h⟩ := bind_of h
  refine ev_invS_v (av := [(1, x2), (1, (0 : Int)), (1, (4 : Int))]) (st := []) (v := (0, v3)) (τ := σ) dX11_row_13 ml_X11_120 mt_X11_isIn rfl ⟨Nat.le_of_ble_eq_true rfl, Nat.le_of_ble_eq_true rfl⟩ (Nat.le_of_ble_eq_true rfl) (c_X11_isIn hc4) ?_
  refine ev_if_eq (tgt := 31) dX11_row_16 rfl h (fun cb h => ?_) (fun cb h => ?_)
  · exact ev_sub (L2 := [(2, (181 : Int)), (9, 0), (9, 0), (9, 0), (9, 0)]) (e_X11_row_31 σ h) ⟨.inr rfl, .inl rfl, .inl rfl, .inl rfl, .inl rfl, trivial⟩
  refine ev_iload_n dX11_row_19 rfl ?_
  refine ev_i2lk dX11_row_20 ?_
  refine ev_lconst (x := (0 : Int)) dX11_row_21 (by decide) (by decide) ?_
  refine ev_ldc2 (x := (40 : Int)) dX11_row_22 wc_X11_149 (by decide) (by decide) ?_
  obtain ⟨v5, hc6, h⟩ := bind_of h
  refine ev_invS_v (av := [(1, x3), (1, (0 : Int)), (1, (40 : Int))]) (st := []) (v := (0, v5)) (τ := σ) dX11_row_25 ml_X11_120 mt_X11_isIn rfl ⟨Nat.le_of_ble_eq_true rfl, Nat.le_of_ble_eq_true rfl⟩ (Nat.le_of_ble_eq_true rfl) (c_X11_isIn hc6) ?_
  refine ev_if_ne (tgt := 38) dX11_row_28 rfl h (fun cb h => ?_) (fun cb h => ?_)
  · refine ev_aload_n dX11_row_38 rfl (by decide) ?_
    refine ev_getf (j := 4) (t := 2) (x := (185 : Int)) dX11_row_39 cf_X11 wf_X11_19 sp181 (by decide) (by decide) rfl (by decide) (rp181_4 _) ?_
    refine ev_iload_n dX11_row_42 rfl ?_
    refine ev_iload_n dX11_row_43 rfl ?_
    refine ev_iastG dX11_row_44 sp185 (by decide) (by decide) h (fun σ7 h => ?_)
    refine ev_aload_n dX11_row_45 rfl (by decide) ?_
    refine ev_getf (j := 5) (t := 2) (x := (186 : Int)) dX11_row_46 cf_X11 wf_X11_22 sp181 (by decide) (by decide) rfl (by decide) (rp181_5 _) ?_
    refine ev_iload_n dX11_row_49 rfl ?_
    refine ev_iload_n dX11_row_50 rfl ?_
    refine ev_iastG dX11_row_51 sp186 (by decide) (by decide) h (fun σ8 h => ?_)
    refine ev_iconst dX11_row_52 (by decide) ?_
    show Ev _ _ _ _ 53 _ _ _ _ _
    refine ev_istore dX11_row_53 rfl (by decide) ?_
    show Ev _ _ _ _ 55 _ _ _ [(2, (181 : Int)), (0, x1), (0, x2), (0, x3), (0, (0 : Int))] _
    exact ev_sub (L2 := [(2, (181 : Int)), (0, x1), (9, 0), (9, 0), (0, (0 : Int))]) (e_X11_row_55 σ8 x1 (0 : Int) h) ⟨.inr rfl, .inr rfl, .inl rfl, .inl rfl, .inr rfl, trivial⟩
  exact ev_sub (L2 := [(2, (181 : Int)), (9, 0), (9, 0), (9, 0), (9, 0)]) (e_X11_row_31 σ h) ⟨.inr rfl, .inl rfl, .inl rfl, .inl rfl, .inl rfl, trivial⟩
set_option maxHeartbeats 4000000 in
set_option maxRecDepth 20000 in
theorem e_X11_set_149 (σ : Mem) (s2 s1 : Int)  {q : (Int × Mem)} (h : f_X11_set_149 σ s2 s1 = some q) : Ev M_X11_set 218 218 (some (0, q.1), rho, q.2) 149 218 rho σ [(9, 0), (9, 0), (9, 0), (9, 0), (9, 0), (9, 0)] [(1, s2), (0, s1), (2, (187 : Int))] := by
  unfold f_X11_set_149 at h
  refine ev_lastG dX11_set_149 sp187 (by decide) (by decide) h (fun σ14 h => ?_)
  refine ev_iconst dX11_set_150 (by decide) ?_
  obtain rfl := Option.some.inj h
  dsimp only
  exact ev_iret dX11_set_151 rfl rfl
set_option maxHeartbeats 4000000 in
set_option maxRecDepth 20000 in
theorem c_X11_set {σ : Mem} {x1 x2 x3 : Int}  {q : (Int × Mem)} (h : f_X11_set σ x1 x2 x3 = some q) : Ms yX11_set M_X11_set 218 218 [(2, (181 : Int)), (0, x1), (0, x2), (1, x3)] rho σ (some (0, q.1), rho, q.2) := by
  refine Ms.of 1 (by decide +kernel) rfl (fun z => absurd z (by decide)) (fun _ _ _ => trivial) rfl rfl ?_
  unfold f_X11_set at h
  show Ev M_X11_set 218 218 _ 0 218 rho σ [(2, (181 : Int)), (0, x1), (0, x2), (1, x3), (9, 0), (9, 0)] []
  refine ev_iload_n dX11_set_0 rfl ?_
  obtain ⟨v1, hc2, h⟩ := bind_of h
  refine ev_invS_v (av := [(0, x1)]) (st := []) (v := (0, v1)) (τ := σ) dX11_set_1 ml_X11_145 mt_X11_isShelf rfl ⟨Nat.le_of_ble_eq_true rfl, Nat.le_of_ble_eq_true rfl⟩ (Nat.le_of_ble_eq_true rfl) (c_X11_isShelf hc2) ?_
  refine ev_if_ne (tgt := 14) dX11_set_4 rfl h (fun cb h => ?_) (fun cb h => ?_)
  · refine ev_aload_n dX11_set_14 rfl (by decide) ?_
    refine ev_getf (j := 4) (t := 2) (x := (185 : Int)) dX11_set_15 cf_X11 wf_X11_19 sp181 (by decide) (by decide) rfl (by decide) (rp181_4 _) ?_
    refine ev_iload_n dX11_set_18 rfl ?_
    refine ev_iald dX11_set_19 sp185 (by decide) (by decide) h (fun h => ?_)
    refine ev_bipush dX11_set_20 (by decide) (by decide) ?_
    refine ev_icmp_lt (tgt := 32) dX11_set_22 rfl h (fun cb h => ?_) (fun cb h => ?_)
    · refine ev_aload_n dX11_set_32 rfl (by decide) ?_
      refine ev_getf (j := 4) (t := 2) (x := (185 : Int)) dX11_set_33 cf_X11 wf_X11_19 sp181 (by decide) (by decide) rfl (by decide) (rp181_4 _) ?_
      refine ev_iload_n dX11_set_36 rfl ?_
      refine ev_iald dX11_set_37 sp185 (by decide) (by decide) h (fun h => ?_)
      refine ev_if_ge (tgt := 48) dX11_set_38 rfl h (fun cb h => ?_) (fun cb h => ?_)
      · refine ev_iload_n dX11_set_48 rfl ?_
        refine ev_i2lk dX11_set_49 ?_
        refine ev_lconst (x := (0 : Int)) dX11_set_50 (by decide) (by decide) ?_
        refine ev_aload_n dX11_set_51 rfl (by decide) ?_
        refine ev_getf (j := 5) (t := 2) (x := (186 : Int)) dX11_set_52 cf_X11 wf_X11_22 sp181 (by decide) (by decide) rfl (by decide) (rp181_5 _) ?_
        refine ev_iload_n dX11_set_55 rfl ?_
        refine ev_iald dX11_set_56 sp186 (by decide) (by decide) h (fun h => ?_)
        refine ev_iconst dX11_set_57 (by decide) ?_
        refine ev_isub dX11_set_58 ?_
        refine ev_i2lk dX11_set_59 ?_
        obtain ⟨v3, hc4, h⟩ := bind_of h
        refine ev_invS_v (av := [(1, x2), (1, (0 : Int)), (1, (jsub (σ (186 : Int) x1) (1 : Int)))]) (st := []) (v := (0, v3)) (τ := σ) dX11_set_60 ml_X11_120 mt_X11_isIn rfl ⟨Nat.le_of_ble_eq_true rfl, Nat.le_of_ble_eq_true rfl⟩ (Nat.le_of_ble_eq_true rfl) (c_X11_isIn hc4) ?_
        show Ev _ _ _ _ 63 _ _ _ _ _
        refine ev_if_ne (tgt := 73) dX11_set_63 rfl h (fun cb h => ?_) (fun cb h => ?_)
        · refine ev_aload_n dX11_set_73 rfl (by decide) ?_
          refine ev_getf (j := 4) (t := 2) (x := (185 : Int)) dX11_set_74 cf_X11 wf_X11_19 sp181 (by decide) (by decide) rfl (by decide) (rp181_4 _) ?_
          refine ev_iload_n dX11_set_77 rfl ?_
          refine ev_iald dX11_set_78 sp185 (by decide) (by decide) h (fun h => ?_)
          refine ev_istoreG dX11_set_79 h rfl (by decide) (fun v5 h => ?_)
          show Ev _ _ _ _ 81 _ _ _ [(2, (181 : Int)), (0, x1), (0, x2), (1, x3), (9, 0), (0, v5)] _
          refine ev_aload_n dX11_set_81 rfl (by decide) ?_
          refine ev_getf (j := 6) (t := 2) (x := (187 : Int)) dX11_set_82 cf_X11 wf_X11_25 sp181 (by decide) (by decide) rfl (by decide) (rp181_6 _) ?_
          refine ev_bipush dX11_set_85 (by decide) (by decide) ?_
          refine ev_iload_n dX11_set_87 rfl ?_
          refine ev_imul dX11_set_88 ?_
          refine ev_iload_n dX11_set_89 rfl ?_
          show Ev _ _ _ _ 90 _ _ _ _ _
          refine ev_iadd dX11_set_90 ?_
          refine ev_iload dX11_set_91 rfl ?_
          refine ev_if_ne (tgt := 103) dX11_set_93 rfl h (fun cb h => ?_) (fun cb h => ?_)
          · refine ev_iload dX11_set_103 rfl ?_
            refine ev_iconst dX11_set_105 (by decide) ?_
            refine ev_icmp_ne (tgt := 116) dX11_set_106 rfl h (fun cb h => ?_) (fun cb h => ?_)
            · refine ev_iload dX11_set_116 rfl ?_
              refine ev_iconst dX11_set_118 (by decide) ?_
              refine ev_icmp_ne (tgt := 128) dX11_set_119 rfl h (fun cb h => ?_) (fun cb h => ?_)
              · refine ev_iload dX11_set_128 rfl ?_
                refine ev_iconst dX11_set_130 (by decide) ?_
                refine ev_icmp_ne (tgt := 138) dX11_set_131 rfl h (fun cb h => ?_) (fun cb h => ?_)
                · refine ev_lload_n dX11_set_138 rfl ?_
                  refine ev_lconst (x := (0 : Int)) dX11_set_139 (by decide) (by decide) ?_
                  refine ev_lc_eq (tgt := 148) dX11_set_140 dX11_set_141 rfl h (fun cb h => ?_) (fun cb h => ?_)
                  · refine ev_lconst (x := (0 : Int)) dX11_set_148 (by decide) (by decide) ?_
                    exact ev_sub (L2 := [(9, 0), (9, 0), (9, 0), (9, 0), (9, 0), (9, 0)]) (e_X11_set_149 σ (0 : Int) (jadd (jmul (40 : Int) x1) x2) h) ⟨.inl rfl, .inl rfl, .inl rfl, .inl rfl, .inl rfl, .inl rfl, trivial⟩
                  refine ev_lconst (x := (1 : Int)) dX11_set_144 (by decide) (by decide) ?_
                  refine ev_goto (tgt := 149) dX11_set_145 rfl ?_
                  exact ev_sub (L2 := [(9, 0), (9, 0), (9, 0), (9, 0), (9, 0), (9, 0)]) (e_X11_set_149 σ (1 : Int) (jadd (jmul (40 : Int) x1) x2) h) ⟨.inl rfl, .inl rfl, .inl rfl, .inl rfl, .inl rfl, .inl rfl, trivial⟩
                refine ev_lload_n dX11_set_134 rfl ?_
                refine ev_goto (tgt := 149) dX11_set_135 rfl ?_
                exact ev_sub (L2 := [(9, 0), (9, 0), (9, 0), (9, 0), (9, 0), (9, 0)]) (e_X11_set_149 σ x3 (jadd (jmul (40 : Int) x1) x2) h) ⟨.inl rfl, .inl rfl, .inl rfl, .inl rfl, .inl rfl, .inl rfl, trivial⟩
              refine ev_lload_n dX11_set_122 rfl ?_
              refine ev_l2i dX11_set_123 ?_
              refine ev_i2lk dX11_set_124 ?_
              refine ev_goto (tgt := 149) dX11_set_125 rfl ?_
              exact ev_sub (L2 := [(9, 0), (9, 0), (9, 0), (9, 0), (9, 0), (9, 0)]) (e_X11_set_149 σ (lj x3) (jadd (jmul (40 : Int) x1) x2) h) ⟨.inl rfl, .inl rfl, .inl rfl, .inl rfl, .inl rfl, .inl rfl, trivial⟩
            refine ev_lload_n dX11_set_109 rfl ?_
            refine ev_l2i dX11_set_110 ?_
            refine ev_i2s dX11_set_111 ?_
            refine ev_i2lk dX11_set_112 ?_
            refine ev_goto (tgt := 149) dX11_set_113 rfl ?_
            exact ev_sub (L2 := [(9, 0), (9, 0), (9, 0), (9, 0), (9, 0), (9, 0)]) (e_X11_set_149 σ (js (lj x3)) (jadd (jmul (40 : Int) x1) x2) h) ⟨.inl rfl, .inl rfl, .inl rfl, .inl rfl, .inl rfl, .inl rfl, trivial⟩
          refine ev_lload_n dX11_set_96 rfl ?_
          refine ev_l2i dX11_set_97 ?_
          refine ev_i2b dX11_set_98 ?_
          refine ev_i2lk dX11_set_99 ?_
          refine ev_goto (tgt := 149) dX11_set_100 rfl ?_
          exact ev_sub (L2 := [(9, 0), (9, 0), (9, 0), (9, 0), (9, 0), (9, 0)]) (e_X11_set_149 σ (jb (lj x3)) (jadd (jmul (40 : Int) x1) x2) h) ⟨.inl rfl, .inl rfl, .inl rfl, .inl rfl, .inl rfl, .inl rfl, trivial⟩
        refine ev_aload_n dX11_set_66 rfl (by decide) ?_
        refine ev_bipush dX11_set_67 (by decide) (by decide) ?_
        obtain ⟨v6, hc7, h⟩ := bind_of h
        refine ev_invV_v (k := (181 : Int)) (av := [(0, (-52 : Int))]) (st := []) (v := (0, v6.1)) (τ := v6.2) dX11_set_69 ml_X11_151 mv_X11_no (T := TX11) (ci := 10) rfl sp181 (by decide) (by decide) rfl ⟨Nat.le_of_ble_eq_true rfl, Nat.le_of_ble_eq_true rfl⟩ (Nat.le_of_ble_eq_true rfl) (c_X11_no hc7) ?_
        obtain rfl := Option.some.inj h
        dsimp only
        exact ev_iret dX11_set_72 rfl rfl
      refine ev_aload_n dX11_set_41 rfl (by decide) ?_
      refine ev_bipush dX11_set_42 (by decide) (by decide) ?_
      obtain ⟨v8, hc9, h⟩ := bind_of h
      refine ev_invV_v (k := (181 : Int)) (av := [(0, (-54 : Int))]) (st := []) (v := (0, v8.1)) (τ := v8.2) dX11_set_44 ml_X11_151 mv_X11_no (T := TX11) (ci := 10) rfl sp181 (by decide) (by decide) rfl ⟨Nat.le_of_ble_eq_true rfl, Nat.le_of_ble_eq_true rfl⟩ (Nat.le_of_ble_eq_true rfl) (c_X11_no hc9) ?_
      obtain rfl := Option.some.inj h
      dsimp only
      exact ev_iret dX11_set_47 rfl rfl
    refine ev_aload_n dX11_set_25 rfl (by decide) ?_
    refine ev_bipush dX11_set_26 (by decide) (by decide) ?_
    obtain ⟨v10, hc11, h⟩ := bind_of h
    refine ev_invV_v (k := (181 : Int)) (av := [(0, (-53 : Int))]) (st := []) (v := (0, v10.1)) (τ := v10.2) dX11_set_28 ml_X11_151 mv_X11_no (T := TX11) (ci := 10) rfl sp181 (by decide) (by decide) rfl ⟨Nat.le_of_ble_eq_true rfl, Nat.le_of_ble_eq_true rfl⟩ (Nat.le_of_ble_eq_true rfl) (c_X11_no hc11) ?_
    obtain rfl := Option.some.inj h
    dsimp only
    exact ev_iret dX11_set_31 rfl rfl
  refine ev_aload_n dX11_set_7 rfl (by decide) ?_
  refine ev_bipush dX11_set_8 (by decide) (by decide) ?_
  obtain ⟨v12, hc13, h⟩ := bind_of h
  refine ev_invV_v (k := (181 : Int)) (av := [(0, (-52 : Int))]) (st := []) (v := (0, v12.1)) (τ := v12.2) dX11_set_10 ml_X11_151 mv_X11_no (T := TX11) (ci := 10) rfl sp181 (by decide) (by decide) rfl ⟨Nat.le_of_ble_eq_true rfl, Nat.le_of_ble_eq_true rfl⟩ (Nat.le_of_ble_eq_true rfl) (c_X11_no hc13) ?_
  obtain rfl := Option.some.inj h
  dsimp only
  exact ev_iret dX11_set_13 rfl rfl
def K_X11_copy_196 (x2 x4 x5 : Int) (r : Option V × Mem × Mem) : (Int × Mem) ⊕ ((Mem)) → Prop := Sum.elim (fun a => Ev M_X11_copy 218 218 r 196 218 rho a.2 [(2, (181 : Int)), (9, 0), (0, x2), (9, 0), (0, x4), (0, x5), (0, a.1)] []) (fun e => Ev M_X11_copy 218 218 r 231 218 rho e [(9, 0), (9, 0), (9, 0), (9, 0), (9, 0), (0, x5), (9, 0)] [])
def K_X11_copy_159 (x1 x2 x3 x4 x5 : Int) (r : Option V × Mem × Mem) : (Int × Mem) ⊕ ((Mem)) → Prop := Sum.elim (fun a => Ev M_X11_copy 218 218 r 159 218 rho a.2 [(2, (181 : Int)), (0, x1), (0, x2), (0, x3), (0, x4), (0, x5), (0, a.1)] []) (fun e => Ev M_X11_copy 218 218 r 193 218 rho e [(2, (181 : Int)), (9, 0), (0, x2), (9, 0), (0, x4), (0, x5), (9, 0)] [])
set_option maxHeartbeats 4000000 in
set_option maxRecDepth 20000 in
theorem e_X11_copy_14 (σ : Mem)  {q : (Int × Mem)} (h : f_X11_copy_14 σ  = some q) : Ev M_X11_copy 218 218 (some (0, q.1), rho, q.2) 14 218 rho σ [(2, (181 : Int)), (9, 0), (9, 0), (9, 0), (9, 0), (9, 0), (9, 0)] [] := by
  unfold f_X11_copy_14 at h
  refine ev_aload_n dX11_copy_14 rfl (by decide) ?_
  refine ev_bipush dX11_copy_15 (by decide) (by decide) ?_
  obtain ⟨v5, hc6, h⟩ := bind_of h
  refine ev_invV_v (k := (181 : Int)) (av := [(0, (-52 : Int))]) (st := []) (v := (0, v5.1)) (τ := v5.2) dX11_copy_17 ml_X11_151 mv_X11_no (T := TX11) (ci := 10) rfl sp181 (by decide) (by decide) rfl ⟨Nat.le_of_ble_eq_true rfl, Nat.le_of_ble_eq_true rfl⟩ (Nat.le_of_ble_eq_true rfl) (c_X11_no hc6) ?_
  obtain rfl := Option.some.inj h
  dsimp only
  exact ev_iret dX11_copy_20 rfl rfl
set_option maxHeartbeats 4000000 in
set_option maxRecDepth 20000 in
theorem e_X11_copy_76 (σ : Mem)  {q : (Int × Mem)} (h : f_X11_copy_76 σ  = some q) : Ev M_X11_copy 218 218 (some (0, q.1), rho, q.2) 76 218 rho σ [(2, (181 : Int)), (9, 0), (9, 0), (9, 0), (9, 0), (9, 0), (9, 0)] [] := by
  unfold f_X11_copy_76 at h
  refine ev_aload_n dX11_copy_76 rfl (by decide) ?_
  refine ev_bipush dX11_copy_77 (by decide) (by decide) ?_
  obtain ⟨v7, hc8, h⟩ := bind_of h
  refine ev_invV_v (k := (181 : Int)) (av := [(0, (-53 : Int))]) (st := []) (v := (0, v7.1)) (τ := v7.2) dX11_copy_79 ml_X11_151 mv_X11_no (T := TX11) (ci := 10) rfl sp181 (by decide) (by decide) rfl ⟨Nat.le_of_ble_eq_true rfl, Nat.le_of_ble_eq_true rfl⟩ (Nat.le_of_ble_eq_true rfl) (c_X11_no hc8) ?_
  obtain rfl := Option.some.inj h
  dsimp only
  exact ev_iret dX11_copy_82 rfl rfl
set_option maxHeartbeats 4000000 in
set_option maxRecDepth 20000 in
theorem e_X11_copy_101 (σ : Mem)  {q : (Int × Mem)} (h : f_X11_copy_101 σ  = some q) : Ev M_X11_copy 218 218 (some (0, q.1), rho, q.2) 101 218 rho σ [(2, (181 : Int)), (9, 0), (9, 0), (9, 0), (9, 0), (9, 0), (9, 0)] [] := by
  unfold f_X11_copy_101 at h
  refine ev_aload_n dX11_copy_101 rfl (by decide) ?_
  refine ev_bipush dX11_copy_102 (by decide) (by decide) ?_
  obtain ⟨v9, hc10, h⟩ := bind_of h
  refine ev_invV_v (k := (181 : Int)) (av := [(0, (-54 : Int))]) (st := []) (v := (0, v9.1)) (τ := v9.2) dX11_copy_104 ml_X11_151 mv_X11_no (T := TX11) (ci := 10) rfl sp181 (by decide) (by decide) rfl ⟨Nat.le_of_ble_eq_true rfl, Nat.le_of_ble_eq_true rfl⟩ (Nat.le_of_ble_eq_true rfl) (c_X11_no hc10) ?_
  obtain rfl := Option.some.inj h
  dsimp only
  exact ev_iret dX11_copy_107 rfl rfl
set_option maxHeartbeats 4000000 in
set_option maxRecDepth 20000 in
theorem e_X11_copy_149 (σ : Mem)  {q : (Int × Mem)} (h : f_X11_copy_149 σ  = some q) : Ev M_X11_copy 218 218 (some (0, q.1), rho, q.2) 149 218 rho σ [(2, (181 : Int)), (9, 0), (9, 0), (9, 0), (9, 0), (9, 0), (9, 0)] [] := by
  unfold f_X11_copy_149 at h
  refine ev_aload_n dX11_copy_149 rfl (by decide) ?_
  refine ev_bipush dX11_copy_150 (by decide) (by decide) ?_
  obtain ⟨v11, hc12, h⟩ := bind_of h
  refine ev_invV_v (k := (181 : Int)) (av := [(0, (-52 : Int))]) (st := []) (v := (0, v11.1)) (τ := v11.2) dX11_copy_152 ml_X11_151 mv_X11_no (T := TX11) (ci := 10) rfl sp181 (by decide) (by decide) rfl ⟨Nat.le_of_ble_eq_true rfl, Nat.le_of_ble_eq_true rfl⟩ (Nat.le_of_ble_eq_true rfl) (c_X11_no hc12) ?_
  obtain rfl := Option.some.inj h
  dsimp only
  exact ev_iret dX11_copy_155 rfl rfl
set_option maxHeartbeats 4000000 in
set_option maxRecDepth 20000 in
theorem b_X11_copy_196 (x2 x4 x5 : Int)  {r : Option V × Mem × Mem} : ∀ a x, f_X11_copy_196B x2 x4 x5 a = some x → K_X11_copy_196 x2 x4 x5 r x → K_X11_copy_196 x2 x4 x5 r (.inl a) := by
  intro a x h K
  obtain ⟨x6, σ⟩ := a
  have h : f_X11_copy_196C x2 x4 x5 x6 σ = some x := h
  unfold f_X11_copy_196C at h
  show Ev M_X11_copy 218 218 r 196 218 rho σ [(2, (181 : Int)), (9, 0), (0, x2), (9, 0), (0, x4), (0, x5), (0, x6)] []
  refine ev_iload dX11_copy_196 rfl ?_
  refine ev_iload dX11_copy_198 rfl ?_
  refine ev_icmp_ge (tgt := 231) dX11_copy_200 rfl h (fun cb h => ?_) (fun cb h => ?_)
  · obtain rfl := Option.some.inj h
    exact ev_sub (L2 := [(9, 0), (9, 0), (9, 0), (9, 0), (9, 0), (0, x5), (9, 0)]) K ⟨.inl rfl, .inl rfl, .inl rfl, .inl rfl, .inl rfl, .inr rfl, .inl rfl, trivial⟩
  refine ev_aload_n dX11_copy_203 rfl (by decide) ?_
  refine ev_getf (j := 6) (t := 2) (x := (187 : Int)) dX11_copy_204 cf_X11 wf_X11_25 sp181 (by decide) (by decide) rfl (by decide) (rp181_6 _) ?_
  refine ev_bipush dX11_copy_207 (by decide) (by decide) ?_
  refine ev_iload_n dX11_copy_209 rfl ?_
  refine ev_imul dX11_copy_210 ?_
  refine ev_iload dX11_copy_211 rfl ?_
  refine ev_iadd dX11_copy_213 ?_
  refine ev_iload dX11_copy_214 rfl ?_
  refine ev_iadd dX11_copy_216 ?_
  refine ev_aload_n dX11_copy_217 rfl (by decide) ?_
  refine ev_getf (j := 7) (t := 2) (x := (188 : Int)) dX11_copy_218 cf_X11 wf_X11_29 sp181 (by decide) (by decide) rfl (by decide) (rp181_7 _) ?_
  show Ev _ _ _ _ 221 _ _ _ _ _
  refine ev_iload dX11_copy_221 rfl ?_
  refine ev_lald dX11_copy_223 sp188 (by decide) (by decide) h (fun h => ?_)
  refine ev_lastG dX11_copy_224 sp187 (by decide) (by decide) h (fun σ15 h => ?_)
  refine ev_iincG dX11_copy_225 rfl h rfl (fun v16 h => ?_)
  show Ev _ _ _ _ 228 _ _ _ [(2, (181 : Int)), (9, 0), (0, x2), (9, 0), (0, x4), (0, x5), (0, v16)] _
  refine ev_goto (tgt := 196) dX11_copy_228 rfl ?_
  obtain rfl := Option.some.inj h
  exact ev_sub (L2 := [(2, (181 : Int)), (9, 0), (0, x2), (9, 0), (0, x4), (0, x5), (0, v16)]) K ⟨.inr rfl, .inl rfl, .inr rfl, .inl rfl, .inr rfl, .inr rfl, .inr rfl, trivial⟩
set_option maxHeartbeats 4000000 in
set_option maxRecDepth 20000 in
theorem e_X11_copy_196 (σ : Mem) (x2 x4 x5 x6 : Int)  {q : (Int × Mem)} (h : f_X11_copy_196 σ x2 x4 x5 x6 = some q) : Ev M_X11_copy 218 218 (some (0, q.1), rho, q.2) 196 218 rho σ [(2, (181 : Int)), (9, 0), (0, x2), (9, 0), (0, x4), (0, x5), (0, x6)] [] := by
  unfold f_X11_copy_196 at h
  obtain ⟨e, hl, h⟩ := bind_of h
  refine loop_ev (K := K_X11_copy_196 x2 x4 x5 (some (0, q.1), rho, q.2)) (b_X11_copy_196 x2 x4 x5) FU (x6, σ) e hl ?_
  show Ev M_X11_copy 218 218 _ 231 218 rho e [(9, 0), (9, 0), (9, 0), (9, 0), (9, 0), (0, x5), (9, 0)] []
  replace h : some (x5, e) = some q := h
  refine ev_iload dX11_copy_231 rfl ?_
  obtain rfl := Option.some.inj h
  dsimp only
  exact ev_iret dX11_copy_233 rfl rfl
set_option maxHeartbeats 4000000 in
set_option maxRecDepth 20000 in
theorem e_X11_copy_193 (σ : Mem) (x2 x4 x5 : Int)  {q : (Int × Mem)} (h : f_X11_copy_193 σ x2 x4 x5 = some q) : Ev M_X11_copy 218 218 (some (0, q.1), rho, q.2) 193 218 rho σ [(2, (181 : Int)), (9, 0), (0, x2), (9, 0), (0, x4), (0, x5), (9, 0)] [] := by
  unfold f_X11_copy_193 at h
  refine ev_iconst dX11_copy_193 (by decide) ?_
  refine ev_istore dX11_copy_194 rfl (by decide) ?_
  show Ev _ _ _ _ 196 _ _ _ [(2, (181 : Int)), (9, 0), (0, x2), (9, 0), (0, x4), (0, x5), (0, (0 : Int))] _
  exact ev_sub (L2 := [(2, (181 : Int)), (9, 0), (0, x2), (9, 0), (0, x4), (0, x5), (0, (0 : Int))]) (e_X11_copy_196 σ x2 x4 x5 (0 : Int) h) ⟨.inr rfl, .inl rfl, .inr rfl, .inl rfl, .inr rfl, .inr rfl, .inr rfl, trivial⟩
set_option maxHeartbeats 4000000 in
set_option maxRecDepth 20000 in
theorem b_X11_copy_159 (x1 x2 x3 x4 x5 : Int)  {r : Option V × Mem × Mem} : ∀ a x, f_X11_copy_159B x1 x2 x3 x4 x5 a = some x → K_X11_copy_159 x1 x2 x3 x4 x5 r x → K_X11_copy_159 x1 x2 x3 x4 x5 r (.inl a) := by
  intro a x h K
  obtain ⟨x6, σ⟩ := a
  have h : f_X11_copy_159C x1 x2 x3 x4 x5 x6 σ = some x := h
  unfold f_X11_copy_159C at h
  show Ev M_X11_copy 218 218 r 159 218 rho σ [(2, (181 : Int)), (0, x1), (0, x2), (0, x3), (0, x4), (0, x5), (0, x6)] []
  refine ev_iload dX11_copy_159 rfl ?_
  refine ev_iload dX11_copy_161 rfl ?_
  refine ev_icmp_ge (tgt := 193) dX11_copy_163 rfl h (fun cb h => ?_) (fun cb h => ?_)
  · obtain rfl := Option.some.inj h
    exact ev_sub (L2 := [(2, (181 : Int)), (9, 0), (0, x2), (9, 0), (0, x4), (0, x5), (9, 0)]) K ⟨.inr rfl, .inl rfl, .inr rfl, .inl rfl, .inr rfl, .inr rfl, .inl rfl, trivial⟩
  refine ev_aload_n dX11_copy_166 rfl (by decide) ?_
  refine ev_getf (j := 7) (t := 2) (x := (188 : Int)) dX11_copy_167 cf_X11 wf_X11_29 sp181 (by decide) (by decide) rfl (by decide) (rp181_7 _) ?_
  refine ev_iload dX11_copy_170 rfl ?_
  refine ev_aload_n dX11_copy_172 rfl (by decide) ?_
  refine ev_getf (j := 6) (t := 2) (x := (187 : Int)) dX11_copy_173 cf_X11 wf_X11_25 sp181 (by decide) (by decide) rfl (by decide) (rp181_6 _) ?_
  refine ev_bipush dX11_copy_176 (by decide) (by decide) ?_
  refine ev_iload_n dX11_copy_178 rfl ?_
  refine ev_imul dX11_copy_179 ?_
  refine ev_iload_n dX11_copy_180 rfl ?_
  refine ev_iadd dX11_copy_181 ?_
  refine ev_iload dX11_copy_182 rfl ?_
  show Ev _ _ _ _ 184 _ _ _ _ _
  refine ev_iadd dX11_copy_184 ?_
  refine ev_lald dX11_copy_185 sp187 (by decide) (by decide) h (fun h => ?_)
  refine ev_lastG dX11_copy_186 sp188 (by decide) (by decide) h (fun σ13 h => ?_)
  refine ev_iincG dX11_copy_187 rfl h rfl (fun v14 h => ?_)
  show Ev _ _ _ _ 190 _ _ _ [(2, (181 : Int)), (0, x1), (0, x2), (0, x3), (0, x4), (0, x5), (0, v14)] _
  refine ev_goto (tgt := 159) dX11_copy_190 rfl ?_
  obtain rfl := Option.some.inj h
  exact ev_sub (L2 := [(2, (181 : Int)), (0, x1), (0, x2), (0, x3), (0, x4), (0, x5), (0, v14)]) K ⟨.inr rfl, .inr rfl, .inr rfl, .inr rfl, .inr rfl, .inr rfl, .inr rfl, trivial⟩
set_option maxHeartbeats 4000000 in
set_option maxRecDepth 20000 in
theorem e_X11_copy_159 (σ : Mem) (x1 x2 x3 x4 x5 x6 : Int)  {q : (Int × Mem)} (h : f_X11_copy_159 σ x1 x2 x3 x4 x5 x6 = some q) : Ev M_X11_copy 218 218 (some (0, q.1), rho, q.2) 159 218 rho σ [(2, (181 : Int)), (0, x1), (0, x2), (0, x3), (0, x4), (0, x5), (0, x6)] [] := by
  unfold f_X11_copy_159 at h
  obtain ⟨e, hl, h⟩ := bind_of h
  refine loop_ev (K := K_X11_copy_159 x1 x2 x3 x4 x5 (some (0, q.1), rho, q.2)) (b_X11_copy_159 x1 x2 x3 x4 x5) FU (x6, σ) e hl ?_
  show Ev M_X11_copy 218 218 _ 193 218 rho e [(2, (181 : Int)), (9, 0), (0, x2), (9, 0), (0, x4), (0, x5), (9, 0)] []
  replace h : f_X11_copy_193 e x2 x4 x5 = some q := h
  exact ev_sub (L2 := [(2, (181 : Int)), (9, 0), (0, x2), (9, 0), (0, x4), (0, x5), (9, 0)]) (e_X11_copy_193 e x2 x4 x5 h) ⟨.inr rfl, .inl rfl, .inr rfl, .inl rfl, .inr rfl, .inr rfl, .inl rfl, trivial⟩
set_option maxHeartbeats 4000000 in
set_option maxRecDepth 20000 in
theorem e_X11_copy_83 (σ : Mem) (x1 x2 x3 x4 x5 : Int)  {q : (Int × Mem)} (h : f_X11_copy_83 σ x1 x2 x3 x4 x5 = some q) : Ev M_X11_copy 218 218 (some (0, q.1), rho, q.2) 83 218 rho σ [(2, (181 : Int)), (0, x1), (0, x2), (0, x3), (0, x4), (0, x5), (9, 0)] [] := by
  unfold f_X11_copy_83 at h
  refine ev_aload_n dX11_copy_83 rfl (by decide) ?_
  refine ev_getf (j := 4) (t := 2) (x := (185 : Int)) dX11_copy_84 cf_X11 wf_X11_19 sp181 (by decide) (by decide) rfl (by decide) (rp181_4 _) ?_
  refine ev_iload_n dX11_copy_87 rfl ?_
  refine ev_iald dX11_copy_88 sp185 (by decide) (by decide) h (fun h => ?_)
  refine ev_if_lt (tgt := 101) dX11_copy_89 rfl h (fun cb h => ?_) (fun cb h => ?_)
  · exact ev_sub (L2 := [(2, (181 : Int)), (9, 0), (9, 0), (9, 0), (9, 0), (9, 0), (9, 0)]) (e_X11_copy_101 σ h) ⟨.inr rfl, .inl rfl, .inl rfl, .inl rfl, .inl rfl, .inl rfl, .inl rfl, trivial⟩
  refine ev_aload_n dX11_copy_92 rfl (by decide) ?_
  refine ev_getf (j := 4) (t := 2) (x := (185 : Int)) dX11_copy_93 cf_X11 wf_X11_19 sp181 (by decide) (by decide) rfl (by decide) (rp181_4 _) ?_
  refine ev_iload_n dX11_copy_96 rfl ?_
  refine ev_iald dX11_copy_97 sp185 (by decide) (by decide) h (fun h => ?_)
  refine ev_if_ge (tgt := 108) dX11_copy_98 rfl h (fun cb h => ?_) (fun cb h => ?_)
  · refine ev_iload_n dX11_copy_108 rfl ?_
    refine ev_if_lt (tgt := 149) dX11_copy_109 rfl h (fun cb h => ?_) (fun cb h => ?_)
    · exact ev_sub (L2 := [(2, (181 : Int)), (9, 0), (9, 0), (9, 0), (9, 0), (9, 0), (9, 0)]) (e_X11_copy_149 σ h) ⟨.inr rfl, .inl rfl, .inl rfl, .inl rfl, .inl rfl, .inl rfl, .inl rfl, trivial⟩
    refine ev_iload dX11_copy_112 rfl ?_
    refine ev_if_lt (tgt := 149) dX11_copy_114 rfl h (fun cb h => ?_) (fun cb h => ?_)
    · exact ev_sub (L2 := [(2, (181 : Int)), (9, 0), (9, 0), (9, 0), (9, 0), (9, 0), (9, 0)]) (e_X11_copy_149 σ h) ⟨.inr rfl, .inl rfl, .inl rfl, .inl rfl, .inl rfl, .inl rfl, .inl rfl, trivial⟩
    refine ev_iload dX11_copy_117 rfl ?_
    refine ev_if_lt (tgt := 149) dX11_copy_119 rfl h (fun cb h => ?_) (fun cb h => ?_)
    · exact ev_sub (L2 := [(2, (181 : Int)), (9, 0), (9, 0), (9, 0), (9, 0), (9, 0), (9, 0)]) (e_X11_copy_149 σ h) ⟨.inr rfl, .inl rfl, .inl rfl, .inl rfl, .inl rfl, .inl rfl, .inl rfl, trivial⟩
    refine ev_iload dX11_copy_122 rfl ?_
    refine ev_aload_n dX11_copy_124 rfl (by decide) ?_
    refine ev_getf (j := 5) (t := 2) (x := (186 : Int)) dX11_copy_125 cf_X11 wf_X11_22 sp181 (by decide) (by decide) rfl (by decide) (rp181_5 _) ?_
    refine ev_iload_n dX11_copy_128 rfl ?_
    refine ev_iald dX11_copy_129 sp186 (by decide) (by decide) h (fun h => ?_)
    refine ev_iload_n dX11_copy_130 rfl ?_
    refine ev_isub dX11_copy_131 ?_
    refine ev_icmp_gt (tgt := 149) dX11_copy_132 rfl h (fun cb h => ?_) (fun cb h => ?_)
    · exact ev_sub (L2 := [(2, (181 : Int)), (9, 0), (9, 0), (9, 0), (9, 0), (9, 0), (9, 0)]) (e_X11_copy_149 σ h) ⟨.inr rfl, .inl rfl, .inl rfl, .inl rfl, .inl rfl, .inl rfl, .inl rfl, trivial⟩
    refine ev_iload dX11_copy_135 rfl ?_
    refine ev_aload_n dX11_copy_137 rfl (by decide) ?_
    refine ev_getf (j := 5) (t := 2) (x := (186 : Int)) dX11_copy_138 cf_X11 wf_X11_22 sp181 (by decide) (by decide) rfl (by decide) (rp181_5 _) ?_
    refine ev_iload_n dX11_copy_141 rfl ?_
    refine ev_iald dX11_copy_142 sp186 (by decide) (by decide) h (fun h => ?_)
    refine ev_iload dX11_copy_143 rfl ?_
    refine ev_isub dX11_copy_145 ?_
    refine ev_icmp_le (tgt := 156) dX11_copy_146 rfl h (fun cb h => ?_) (fun cb h => ?_)
    · refine ev_iconst dX11_copy_156 (by decide) ?_
      refine ev_istore dX11_copy_157 rfl (by decide) ?_
      show Ev _ _ _ _ 159 _ _ _ [(2, (181 : Int)), (0, x1), (0, x2), (0, x3), (0, x4), (0, x5), (0, (0 : Int))] _
      exact ev_sub (L2 := [(2, (181 : Int)), (0, x1), (0, x2), (0, x3), (0, x4), (0, x5), (0, (0 : Int))]) (e_X11_copy_159 σ x1 x2 x3 x4 x5 (0 : Int) h) ⟨.inr rfl, .inr rfl, .inr rfl, .inr rfl, .inr rfl, .inr rfl, .inr rfl, trivial⟩
    exact ev_sub (L2 := [(2, (181 : Int)), (9, 0), (9, 0), (9, 0), (9, 0), (9, 0), (9, 0)]) (e_X11_copy_149 σ h) ⟨.inr rfl, .inl rfl, .inl rfl, .inl rfl, .inl rfl, .inl rfl, .inl rfl, trivial⟩
  exact ev_sub (L2 := [(2, (181 : Int)), (9, 0), (9, 0), (9, 0), (9, 0), (9, 0), (9, 0)]) (e_X11_copy_101 σ h) ⟨.inr rfl, .inl rfl, .inl rfl, .inl rfl, .inl rfl, .inl rfl, .inl rfl, trivial⟩
set_option maxHeartbeats 4000000 in
set_option maxRecDepth 20000 in
theorem c_X11_copy {σ : Mem} {x1 x2 x3 x4 x5 : Int}  {q : (Int × Mem)} (h : f_X11_copy σ x1 x2 x3 x4 x5 = some q) : Ms yX11_copy M_X11_copy 218 218 [(2, (181 : Int)), (0, x1), (0, x2), (0, x3), (0, x4), (0, x5)] rho σ (some (0, q.1), rho, q.2) := by
  refine Ms.of 1 (by decide +kernel) rfl (fun z => absurd z (by decide)) (fun _ _ _ => trivial) rfl rfl ?_
  unfold f_X11_copy at h
  show Ev M_X11_copy 218 218 _ 0 218 rho σ [(2, (181 : Int)), (0, x1), (0, x2), (0, x3), (0, x4), (0, x5), (9, 0)] []
  refine ev_iload_n dX11_copy_0 rfl ?_
  obtain ⟨v1, hc2, h⟩ := bind_of h
  refine ev_invS_v (av := [(0, x1)]) (st := []) (v := (0, v1)) (τ := σ) dX11_copy_1 ml_X11_145 mt_X11_isShelf rfl ⟨Nat.le_of_ble_eq_true rfl, Nat.le_of_ble_eq_true rfl⟩ (Nat.le_of_ble_eq_true rfl) (c_X11_isShelf hc2) ?_
  refine ev_if_eq (tgt := 14) dX11_copy_4 rfl h (fun cb h => ?_) (fun cb h => ?_)
  · exact ev_sub (L2 := [(2, (181 : Int)), (9, 0), (9, 0), (9, 0), (9, 0), (9, 0), (9, 0)]) (e_X11_copy_14 σ h) ⟨.inr rfl, .inl rfl, .inl rfl, .inl rfl, .inl rfl, .inl rfl, .inl rfl, trivial⟩
  refine ev_iload_n dX11_copy_7 rfl ?_
  obtain ⟨v3, hc4, h⟩ := bind_of h
  refine ev_invS_v (av := [(0, x2)]) (st := []) (v := (0, v3)) (τ := σ) dX11_copy_8 ml_X11_145 mt_X11_isShelf rfl ⟨Nat.le_of_ble_eq_true rfl, Nat.le_of_ble_eq_true rfl⟩ (Nat.le_of_ble_eq_true rfl) (c_X11_isShelf hc4) ?_
  refine ev_if_ne (tgt := 21) dX11_copy_11 rfl h (fun cb h => ?_) (fun cb h => ?_)
  · refine ev_aload_n dX11_copy_21 rfl (by decide) ?_
    refine ev_getf (j := 4) (t := 2) (x := (185 : Int)) dX11_copy_22 cf_X11 wf_X11_19 sp181 (by decide) (by decide) rfl (by decide) (rp181_4 _) ?_
    refine ev_iload_n dX11_copy_25 rfl ?_
    refine ev_iald dX11_copy_26 sp185 (by decide) (by decide) h (fun h => ?_)
    refine ev_bipush dX11_copy_27 (by decide) (by decide) ?_
    refine ev_icmp_ge (tgt := 76) dX11_copy_29 rfl h (fun cb h => ?_) (fun cb h => ?_)
    · exact ev_sub (L2 := [(2, (181 : Int)), (9, 0), (9, 0), (9, 0), (9, 0), (9, 0), (9, 0)]) (e_X11_copy_76 σ h) ⟨.inr rfl, .inl rfl, .inl rfl, .inl rfl, .inl rfl, .inl rfl, .inl rfl, trivial⟩
    refine ev_aload_n dX11_copy_32 rfl (by decide) ?_
    refine ev_getf (j := 4) (t := 2) (x := (185 : Int)) dX11_copy_33 cf_X11 wf_X11_19 sp181 (by decide) (by decide) rfl (by decide) (rp181_4 _) ?_
    refine ev_iload_n dX11_copy_36 rfl ?_
    refine ev_iald dX11_copy_37 sp185 (by decide) (by decide) h (fun h => ?_)
    refine ev_bipush dX11_copy_38 (by decide) (by decide) ?_
    refine ev_icmp_ge (tgt := 76) dX11_copy_40 rfl h (fun cb h => ?_) (fun cb h => ?_)
    · exact ev_sub (L2 := [(2, (181 : Int)), (9, 0), (9, 0), (9, 0), (9, 0), (9, 0), (9, 0)]) (e_X11_copy_76 σ h) ⟨.inr rfl, .inl rfl, .inl rfl, .inl rfl, .inl rfl, .inl rfl, .inl rfl, trivial⟩
    refine ev_aload_n dX11_copy_43 rfl (by decide) ?_
    refine ev_getf (j := 4) (t := 2) (x := (185 : Int)) dX11_copy_44 cf_X11 wf_X11_19 sp181 (by decide) (by decide) rfl (by decide) (rp181_4 _) ?_
    refine ev_iload_n dX11_copy_47 rfl ?_
    refine ev_iald dX11_copy_48 sp185 (by decide) (by decide) h (fun h => ?_)
    refine ev_if_lt (tgt := 83) dX11_copy_49 rfl h (fun cb h => ?_) (fun cb h => ?_)
    · exact ev_sub (L2 := [(2, (181 : Int)), (0, x1), (0, x2), (0, x3), (0, x4), (0, x5), (9, 0)]) (e_X11_copy_83 σ x1 x2 x3 x4 x5 h) ⟨.inr rfl, .inr rfl, .inr rfl, .inr rfl, .inr rfl, .inr rfl, .inl rfl, trivial⟩
    refine ev_aload_n dX11_copy_52 rfl (by decide) ?_
    refine ev_getf (j := 4) (t := 2) (x := (185 : Int)) dX11_copy_53 cf_X11 wf_X11_19 sp181 (by decide) (by decide) rfl (by decide) (rp181_4 _) ?_
    refine ev_iload_n dX11_copy_56 rfl ?_
    refine ev_iald dX11_copy_57 sp185 (by decide) (by decide) h (fun h => ?_)
    refine ev_if_lt (tgt := 83) dX11_copy_58 rfl h (fun cb h => ?_) (fun cb h => ?_)
    · exact ev_sub (L2 := [(2, (181 : Int)), (0, x1), (0, x2), (0, x3), (0, x4), (0, x5), (9, 0)]) (e_X11_copy_83 σ x1 x2 x3 x4 x5 h) ⟨.inr rfl, .inr rfl, .inr rfl, .inr rfl, .inr rfl, .inr rfl, .inl rfl, trivial⟩
    refine ev_aload_n dX11_copy_61 rfl (by decide) ?_
    refine ev_getf (j := 4) (t := 2) (x := (185 : Int)) dX11_copy_62 cf_X11 wf_X11_19 sp181 (by decide) (by decide) rfl (by decide) (rp181_4 _) ?_
    refine ev_iload_n dX11_copy_65 rfl ?_
    refine ev_iald dX11_copy_66 sp185 (by decide) (by decide) h (fun h => ?_)
    refine ev_aload_n dX11_copy_67 rfl (by decide) ?_
    refine ev_getf (j := 4) (t := 2) (x := (185 : Int)) dX11_copy_68 cf_X11 wf_X11_19 sp181 (by decide) (by decide) rfl (by decide) (rp181_4 _) ?_
    refine ev_iload_n dX11_copy_71 rfl ?_
    refine ev_iald dX11_copy_72 sp185 (by decide) (by decide) h (fun h => ?_)
    refine ev_icmp_eq (tgt := 83) dX11_copy_73 rfl h (fun cb h => ?_) (fun cb h => ?_)
    · exact ev_sub (L2 := [(2, (181 : Int)), (0, x1), (0, x2), (0, x3), (0, x4), (0, x5), (9, 0)]) (e_X11_copy_83 σ x1 x2 x3 x4 x5 h) ⟨.inr rfl, .inr rfl, .inr rfl, .inr rfl, .inr rfl, .inr rfl, .inl rfl, trivial⟩
    exact ev_sub (L2 := [(2, (181 : Int)), (9, 0), (9, 0), (9, 0), (9, 0), (9, 0), (9, 0)]) (e_X11_copy_76 σ h) ⟨.inr rfl, .inl rfl, .inl rfl, .inl rfl, .inl rfl, .inl rfl, .inl rfl, trivial⟩
  exact ev_sub (L2 := [(2, (181 : Int)), (9, 0), (9, 0), (9, 0), (9, 0), (9, 0), (9, 0)]) (e_X11_copy_14 σ h) ⟨.inr rfl, .inl rfl, .inl rfl, .inl rfl, .inl rfl, .inl rfl, .inl rfl, trivial⟩
set_option maxHeartbeats 4000000 in
set_option maxRecDepth 20000 in
theorem c_X11_element {σ : Mem} {x1 x2 : Int}  {q : Int} (h : f_X11_element σ x1 x2 = some q) : Ms yX11_element M_X11_element 218 218 [(2, (181 : Int)), (0, x1), (0, x2)] rho σ (some (1, q), rho, σ) := by
  refine Ms.of 0 (by decide +kernel) rfl (fun z => absurd z (by decide)) (fun _ _ _ => trivial) rfl rfl ?_
  unfold f_X11_element at h
  show Ev M_X11_element 218 218 _ 0 218 rho σ [(2, (181 : Int)), (0, x1), (0, x2)] []
  refine ev_iload_n dX11_element_0 rfl ?_
  obtain ⟨v1, hc2, h⟩ := bind_of h
  refine ev_invS_v (av := [(0, x1)]) (st := []) (v := (0, v1)) (τ := σ) dX11_element_1 ml_X11_145 mt_X11_isShelf rfl ⟨Nat.le_of_ble_eq_true rfl, Nat.le_of_ble_eq_true rfl⟩ (Nat.le_of_ble_eq_true rfl) (c_X11_isShelf hc2) ?_
  refine ev_if_eq (tgt := 47) dX11_element_4 rfl h (fun cb h => ?_) (fun cb h => ?_)
  · refine ev_lconst (x := (0 : Int)) dX11_element_47 (by decide) (by decide) ?_
    obtain rfl := Option.some.inj h
    exact ev_lret dX11_element_48 rfl rfl
  refine ev_aload_n dX11_element_7 rfl (by decide) ?_
  refine ev_iload_n dX11_element_8 rfl ?_
  obtain ⟨v3, hc4, h⟩ := bind_of h
  refine ev_invV_v (k := (181 : Int)) (av := [(0, x1)]) (st := []) (v := (0, v3)) (τ := σ) dX11_element_9 ml_X11_154 mv_X11_isRow (T := TX11) (ci := 10) rfl sp181 (by decide) (by decide) rfl ⟨Nat.le_of_ble_eq_true rfl, Nat.le_of_ble_eq_true rfl⟩ (Nat.le_of_ble_eq_true rfl) (c_X11_isRow hc4) ?_
  refine ev_if_eq (tgt := 47) dX11_element_12 rfl h (fun cb h => ?_) (fun cb h => ?_)
  · refine ev_lconst (x := (0 : Int)) dX11_element_47 (by decide) (by decide) ?_
    obtain rfl := Option.some.inj h
    exact ev_lret dX11_element_48 rfl rfl
  refine ev_iload_n dX11_element_15 rfl ?_
  refine ev_i2lk dX11_element_16 ?_
  refine ev_lconst (x := (0 : Int)) dX11_element_17 (by decide) (by decide) ?_
  refine ev_aload_n dX11_element_18 rfl (by decide) ?_
  refine ev_getf (j := 5) (t := 2) (x := (186 : Int)) dX11_element_19 cf_X11 wf_X11_22 sp181 (by decide) (by decide) rfl (by decide) (rp181_5 _) ?_
  refine ev_iload_n dX11_element_22 rfl ?_
  refine ev_iald dX11_element_23 sp186 (by decide) (by decide) h (fun h => ?_)
  refine ev_iconst dX11_element_24 (by decide) ?_
  refine ev_isub dX11_element_25 ?_
  refine ev_i2lk dX11_element_26 ?_
  obtain ⟨v5, hc6, h⟩ := bind_of h
  refine ev_invS_v (av := [(1, x2), (1, (0 : Int)), (1, (jsub (σ (186 : Int) x1) (1 : Int)))]) (st := []) (v := (0, v5)) (τ := σ) dX11_element_27 ml_X11_120 mt_X11_isIn rfl ⟨Nat.le_of_ble_eq_true rfl, Nat.le_of_ble_eq_true rfl⟩ (Nat.le_of_ble_eq_true rfl) (c_X11_isIn hc6) ?_
  show Ev _ _ _ _ 30 _ _ _ _ _
  refine ev_if_eq (tgt := 47) dX11_element_30 rfl h (fun cb h => ?_) (fun cb h => ?_)
  · refine ev_lconst (x := (0 : Int)) dX11_element_47 (by decide) (by decide) ?_
    obtain rfl := Option.some.inj h
    exact ev_lret dX11_element_48 rfl rfl
  refine ev_aload_n dX11_element_33 rfl (by decide) ?_
  refine ev_getf (j := 6) (t := 2) (x := (187 : Int)) dX11_element_34 cf_X11 wf_X11_25 sp181 (by decide) (by decide) rfl (by decide) (rp181_6 _) ?_
  refine ev_bipush dX11_element_37 (by decide) (by decide) ?_
  refine ev_iload_n dX11_element_39 rfl ?_
  refine ev_imul dX11_element_40 ?_
  refine ev_iload_n dX11_element_41 rfl ?_
  refine ev_iadd dX11_element_42 ?_
  refine ev_lald dX11_element_43 sp187 (by decide) (by decide) h (fun h => ?_)
  refine ev_goto (tgt := 48) dX11_element_44 rfl ?_
  obtain rfl := Option.some.inj h
  exact ev_lret dX11_element_48 rfl rfl
set_option maxHeartbeats 4000000 in
set_option maxRecDepth 20000 in
theorem c_X11_holds {σ : Mem} {x1 : Int}  {q : Int} (h : f_X11_holds σ x1 = some q) : Ms yX11_holds M_X11_holds 218 218 [(2, (181 : Int)), (0, x1)] rho σ (some (0, q), rho, σ) := by
  refine Ms.of 0 (by decide +kernel) rfl (fun z => absurd z (by decide)) (fun _ _ _ => trivial) rfl rfl ?_
  unfold f_X11_holds at h
  show Ev M_X11_holds 218 218 _ 0 218 rho σ [(2, (181 : Int)), (0, x1)] []
  refine ev_iload_n dX11_holds_0 rfl ?_
  obtain ⟨v1, hc2, h⟩ := bind_of h
  refine ev_invS_v (av := [(0, x1)]) (st := []) (v := (0, v1)) (τ := σ) dX11_holds_1 ml_X11_145 mt_X11_isShelf rfl ⟨Nat.le_of_ble_eq_true rfl, Nat.le_of_ble_eq_true rfl⟩ (Nat.le_of_ble_eq_true rfl) (c_X11_isShelf hc2) ?_
  refine ev_if_eq (tgt := 16) dX11_holds_4 rfl h (fun cb h => ?_) (fun cb h => ?_)
  · refine ev_iconst dX11_holds_16 (by decide) ?_
    obtain rfl := Option.some.inj h
    exact ev_iret dX11_holds_17 rfl rfl
  refine ev_aload_n dX11_holds_7 rfl (by decide) ?_
  refine ev_getf (j := 4) (t := 2) (x := (185 : Int)) dX11_holds_8 cf_X11 wf_X11_19 sp181 (by decide) (by decide) rfl (by decide) (rp181_4 _) ?_
  refine ev_iload_n dX11_holds_11 rfl ?_
  refine ev_iald dX11_holds_12 sp185 (by decide) (by decide) h (fun h => ?_)
  refine ev_goto (tgt := 17) dX11_holds_13 rfl ?_
  obtain rfl := Option.some.inj h
  exact ev_iret dX11_holds_17 rfl rfl
set_option maxHeartbeats 4000000 in
set_option maxRecDepth 20000 in
theorem e_X11_show_20 (σ : Mem)  {q : (Int × Mem)} (h : f_X11_show_20 σ  = some q) : Ev M_X11_show 218 218 (some (0, q.1), rho, q.2) 20 218 rho σ [(2, (181 : Int)), (9, 0), (9, 0)] [] := by
  unfold f_X11_show_20 at h
  refine ev_aload_n dX11_show_20 rfl (by decide) ?_
  refine ev_bipush dX11_show_21 (by decide) (by decide) ?_
  obtain ⟨v5, hc6, h⟩ := bind_of h
  refine ev_invV_v (k := (181 : Int)) (av := [(0, (-52 : Int))]) (st := []) (v := (0, v5.1)) (τ := v5.2) dX11_show_23 ml_X11_151 mv_X11_no (T := TX11) (ci := 10) rfl sp181 (by decide) (by decide) rfl ⟨Nat.le_of_ble_eq_true rfl, Nat.le_of_ble_eq_true rfl⟩ (Nat.le_of_ble_eq_true rfl) (c_X11_no hc6) ?_
  obtain rfl := Option.some.inj h
  dsimp only
  exact ev_iret dX11_show_26 rfl rfl
set_option maxHeartbeats 4000000 in
set_option maxRecDepth 20000 in
theorem e_X11_show_45 (σ : Mem) (s2 s1 : Int)  {q : (Int × Mem)} (h : f_X11_show_45 σ s2 s1 = some q) : Ev M_X11_show 218 218 (some (0, q.1), rho, q.2) 45 218 rho σ [(9, 0), (9, 0), (9, 0)] [(0, s2), (0, s1), (2, (185 : Int))] := by
  unfold f_X11_show_45 at h
  refine ev_iastG dX11_show_45 sp185 (by decide) (by decide) h (fun σ7 h => ?_)
  refine ev_iconst dX11_show_46 (by decide) ?_
  obtain rfl := Option.some.inj h
  dsimp only
  exact ev_iret dX11_show_47 rfl rfl
set_option maxHeartbeats 4000000 in
set_option maxRecDepth 20000 in
theorem e_X11_show_27 (σ : Mem) (x1 x2 : Int)  {q : (Int × Mem)} (h : f_X11_show_27 σ x1 x2 = some q) : Ev M_X11_show 218 218 (some (0, q.1), rho, q.2) 27 218 rho σ [(2, (181 : Int)), (0, x1), (0, x2)] [] := by
  unfold f_X11_show_27 at h
  refine ev_aload_n dX11_show_27 rfl (by decide) ?_
  refine ev_getf (j := 4) (t := 2) (x := (185 : Int)) dX11_show_28 cf_X11 wf_X11_19 sp181 (by decide) (by decide) rfl (by decide) (rp181_4 _) ?_
  refine ev_iload_n dX11_show_31 rfl ?_
  refine ev_iload_n dX11_show_32 rfl ?_
  refine ev_iconst dX11_show_33 (by decide) ?_
  refine ev_icmp_ne (tgt := 41) dX11_show_34 rfl h (fun cb h => ?_) (fun cb h => ?_)
  · refine ev_bipush dX11_show_41 (by decide) (by decide) ?_
    refine ev_iload_n dX11_show_43 rfl ?_
    refine ev_iadd dX11_show_44 ?_
    exact ev_sub (L2 := [(9, 0), (9, 0), (9, 0)]) (e_X11_show_45 σ (jadd (10 : Int) x2) x1 h) ⟨.inl rfl, .inl rfl, .inl rfl, trivial⟩
  refine ev_iconst dX11_show_37 (by decide) ?_
  refine ev_goto (tgt := 45) dX11_show_38 rfl ?_
  exact ev_sub (L2 := [(9, 0), (9, 0), (9, 0)]) (e_X11_show_45 σ (-1 : Int) x1 h) ⟨.inl rfl, .inl rfl, .inl rfl, trivial⟩
set_option maxHeartbeats 4000000 in
set_option maxRecDepth 20000 in
theorem c_X11_show {σ : Mem} {x1 x2 : Int}  {q : (Int × Mem)} (h : f_X11_show σ x1 x2 = some q) : Ms yX11_show M_X11_show 218 218 [(2, (181 : Int)), (0, x1), (0, x2)] rho σ (some (0, q.1), rho, q.2) := by
  refine Ms.of 0 (by decide +kernel) rfl (fun z => absurd z (by decide)) (fun _ _ _ => trivial) rfl rfl ?_
  unfold f_X11_show at h
  show Ev M_X11_show 218 218 _ 0 218 rho σ [(2, (181 : Int)), (0, x1), (0, x2)] []
  refine ev_iload_n dX11_show_0 rfl ?_
  obtain ⟨v1, hc2, h⟩ := bind_of h
  refine ev_invS_v (av := [(0, x1)]) (st := []) (v := (0, v1)) (τ := σ) dX11_show_1 ml_X11_145 mt_X11_isShelf rfl ⟨Nat.le_of_ble_eq_true rfl, Nat.le_of_ble_eq_true rfl⟩ (Nat.le_of_ble_eq_true rfl) (c_X11_isShelf hc2) ?_
  refine ev_if_eq (tgt := 20) dX11_show_4 rfl h (fun cb h => ?_) (fun cb h => ?_)
  · exact ev_sub (L2 := [(2, (181 : Int)), (9, 0), (9, 0)]) (e_X11_show_20 σ h) ⟨.inr rfl, .inl rfl, .inl rfl, trivial⟩
  refine ev_iload_n dX11_show_7 rfl ?_
  refine ev_iconst dX11_show_8 (by decide) ?_
  refine ev_icmp_eq (tgt := 27) dX11_show_9 rfl h (fun cb h => ?_) (fun cb h => ?_)
  · exact ev_sub (L2 := [(2, (181 : Int)), (0, x1), (0, x2)]) (e_X11_show_27 σ x1 x2 h) ⟨.inr rfl, .inr rfl, .inr rfl, trivial⟩
  refine ev_aload_n dX11_show_12 rfl (by decide) ?_
  refine ev_iload_n dX11_show_13 rfl ?_
  obtain ⟨v3, hc4, h⟩ := bind_of h
  refine ev_invV_v (k := (181 : Int)) (av := [(0, x2)]) (st := []) (v := (0, v3)) (τ := σ) dX11_show_14 ml_X11_157 mv_X11_isCand (T := TX11) (ci := 10) rfl sp181 (by decide) (by decide) rfl ⟨Nat.le_of_ble_eq_true rfl, Nat.le_of_ble_eq_true rfl⟩ (Nat.le_of_ble_eq_true rfl) (c_X11_isCand hc4) ?_
  refine ev_if_ne (tgt := 27) dX11_show_17 rfl h (fun cb h => ?_) (fun cb h => ?_)
  · exact ev_sub (L2 := [(2, (181 : Int)), (0, x1), (0, x2)]) (e_X11_show_27 σ x1 x2 h) ⟨.inr rfl, .inr rfl, .inr rfl, trivial⟩
  exact ev_sub (L2 := [(2, (181 : Int)), (9, 0), (9, 0)]) (e_X11_show_20 σ h) ⟨.inr rfl, .inl rfl, .inl rfl, trivial⟩
set_option maxHeartbeats 4000000 in
set_option maxRecDepth 20000 in
theorem e_X11_isUnder_29 (σ : Mem)  {q : Int} (h : f_X11_isUnder_29 σ  = some q) : Ev M_X11_isUnder 218 218 (some (0, q), rho, σ) 29 218 rho σ [(9, 0), (9, 0)] [] := by
  unfold f_X11_isUnder_29 at h
  refine ev_iconst dX11_isUnder_29 (by decide) ?_
  refine ev_goto (tgt := 34) dX11_isUnder_30 rfl ?_
  obtain rfl := Option.some.inj h
  exact ev_zret dX11_isUnder_34 rfl (chk_pos (.inr rfl))
set_option maxHeartbeats 4000000 in
set_option maxRecDepth 20000 in
theorem e_X11_isUnder_19 (σ : Mem) (x0 x1 : Int)  {q : Int} (h : f_X11_isUnder_19 σ x0 x1 = some q) : Ev M_X11_isUnder 218 218 (some (0, q), rho, σ) 19 218 rho σ [(0, x0), (0, x1)] [] := by
  unfold f_X11_isUnder_19 at h
  refine ev_iload_n dX11_isUnder_19 rfl ?_
  refine ev_iconst dX11_isUnder_20 (by decide) ?_
  refine ev_icmp_ne (tgt := 33) dX11_isUnder_21 rfl h (fun cb h => ?_) (fun cb h => ?_)
  · refine ev_iconst dX11_isUnder_33 (by decide) ?_
    obtain rfl := Option.some.inj h
    exact ev_zret dX11_isUnder_34 rfl (chk_pos (.inl rfl))
  refine ev_iload_n dX11_isUnder_24 rfl ?_
  refine ev_iconst dX11_isUnder_25 (by decide) ?_
  refine ev_icmp_ne (tgt := 33) dX11_isUnder_26 rfl h (fun cb h => ?_) (fun cb h => ?_)
  · refine ev_iconst dX11_isUnder_33 (by decide) ?_
    obtain rfl := Option.some.inj h
    exact ev_zret dX11_isUnder_34 rfl (chk_pos (.inl rfl))
  exact ev_sub (L2 := [(9, 0), (9, 0)]) (e_X11_isUnder_29 σ h) ⟨.inl rfl, .inl rfl, trivial⟩
set_option maxHeartbeats 4000000 in
set_option maxRecDepth 20000 in
theorem c_X11_isUnder {σ : Mem} {x0 x1 : Int}  {q : Int} (h : f_X11_isUnder σ x0 x1 = some q) : Ms yX11_isUnder M_X11_isUnder 218 218 [(0, x0), (0, x1)] rho σ (some (0, q), rho, σ) := by
  refine Ms.of 0 (by decide +kernel) rfl (fun z => absurd z (by decide)) (fun _ _ _ => trivial) rfl rfl ?_
  unfold f_X11_isUnder at h
  show Ev M_X11_isUnder 218 218 _ 0 218 rho σ [(0, x0), (0, x1)] []
  refine ev_iload_n dX11_isUnder_0 rfl ?_
  refine ev_if_eq (tgt := 29) dX11_isUnder_1 rfl h (fun cb h => ?_) (fun cb h => ?_)
  · exact ev_sub (L2 := [(9, 0), (9, 0)]) (e_X11_isUnder_29 σ h) ⟨.inl rfl, .inl rfl, trivial⟩
  refine ev_iload_n dX11_isUnder_4 rfl ?_
  refine ev_iload_n dX11_isUnder_5 rfl ?_
  refine ev_icmp_eq (tgt := 29) dX11_isUnder_6 rfl h (fun cb h => ?_) (fun cb h => ?_)
  · exact ev_sub (L2 := [(9, 0), (9, 0)]) (e_X11_isUnder_29 σ h) ⟨.inl rfl, .inl rfl, trivial⟩
  refine ev_iload_n dX11_isUnder_9 rfl ?_
  refine ev_iconst dX11_isUnder_10 (by decide) ?_
  refine ev_icmp_ne (tgt := 19) dX11_isUnder_11 rfl h (fun cb h => ?_) (fun cb h => ?_)
  · exact ev_sub (L2 := [(0, x0), (0, x1)]) (e_X11_isUnder_19 σ x0 x1 h) ⟨.inr rfl, .inr rfl, trivial⟩
  refine ev_iload_n dX11_isUnder_14 rfl ?_
  refine ev_iconst dX11_isUnder_15 (by decide) ?_
  refine ev_icmp_eq (tgt := 29) dX11_isUnder_16 rfl h (fun cb h => ?_) (fun cb h => ?_)
  · exact ev_sub (L2 := [(9, 0), (9, 0)]) (e_X11_isUnder_29 σ h) ⟨.inl rfl, .inl rfl, trivial⟩
  exact ev_sub (L2 := [(0, x0), (0, x1)]) (e_X11_isUnder_19 σ x0 x1 h) ⟨.inr rfl, .inr rfl, trivial⟩
set_option maxHeartbeats 4000000 in
set_option maxRecDepth 20000 in
theorem e_X11_says_31 (σ : Mem)  {q : (Int × Mem)} (h : f_X11_says_31 σ  = some q) : Ev M_X11_says 218 218 (some (0, q.1), rho, q.2) 31 218 rho σ [(2, (181 : Int)), (9, 0), (9, 0), (9, 0), (9, 0), (9, 0), (9, 0)] [] := by
  unfold f_X11_says_31 at h
  refine ev_aload_n dX11_says_31 rfl (by decide) ?_
  refine ev_bipush dX11_says_32 (by decide) (by decide) ?_
  obtain ⟨v34, hc35, h⟩ := bind_of h
  refine ev_invV_v (k := (181 : Int)) (av := [(0, (-52 : Int))]) (st := []) (v := (0, v34.1)) (τ := v34.2) dX11_says_34 ml_X11_151 mv_X11_no (T := TX11) (ci := 10) rfl sp181 (by decide) (by decide) rfl ⟨Nat.le_of_ble_eq_true rfl, Nat.le_of_ble_eq_true rfl⟩ (Nat.le_of_ble_eq_true rfl) (c_X11_no hc35) ?_
  obtain rfl := Option.some.inj h
  dsimp only
  exact ev_iret dX11_says_37 rfl rfl
set_option maxHeartbeats 4000000 in
set_option maxRecDepth 20000 in
theorem c_X11_says {σ : Mem} {x1 x2 x3 : Int}  {q : (Int × Mem)} (h : f_X11_says σ x1 x2 x3 = some q) : Ms yX11_says M_X11_says 218 218 [(2, (181 : Int)), (0, x1), (0, x2), (0, x3)] rho σ (some (0, q.1), rho, q.2) := by
  refine Ms.of 3 (by decide +kernel) rfl (fun z => absurd z (by decide)) (fun _ _ _ => trivial) rfl rfl ?_
  unfold f_X11_says at h
  show Ev M_X11_says 218 218 _ 0 218 rho σ [(2, (181 : Int)), (0, x1), (0, x2), (0, x3), (9, 0), (9, 0), (9, 0)] []
  refine ev_iload_n dX11_says_0 rfl ?_
  obtain ⟨v1, hc2, h⟩ := bind_of h
  refine ev_invS_v (av := [(0, x1)]) (st := []) (v := (0, v1)) (τ := σ) dX11_says_1 ml_X11_145 mt_X11_isShelf rfl ⟨Nat.le_of_ble_eq_true rfl, Nat.le_of_ble_eq_true rfl⟩ (Nat.le_of_ble_eq_true rfl) (c_X11_isShelf hc2) ?_
  refine ev_if_eq (tgt := 31) dX11_says_4 rfl h (fun cb h => ?_) (fun cb h => ?_)
  · exact ev_sub (L2 := [(2, (181 : Int)), (9, 0), (9, 0), (9, 0), (9, 0), (9, 0), (9, 0)]) (e_X11_says_31 σ h) ⟨.inr rfl, .inl rfl, .inl rfl, .inl rfl, .inl rfl, .inl rfl, .inl rfl, trivial⟩
  refine ev_iload_n dX11_says_7 rfl ?_
  refine ev_i2lk dX11_says_8 ?_
  refine ev_lconst (x := (0 : Int)) dX11_says_9 (by decide) (by decide) ?_
  refine ev_ldc2 (x := (5 : Int)) dX11_says_10 wc_X11_160 (by decide) (by decide) ?_
  obtain ⟨v3, hc4, h⟩ := bind_of h
  refine ev_invS_v (av := [(1, x2), (1, (0 : Int)), (1, (5 : Int))]) (st := []) (v := (0, v3)) (τ := σ) dX11_says_13 ml_X11_120 mt_X11_isIn rfl ⟨Nat.le_of_ble_eq_true rfl, Nat.le_of_ble_eq_true rfl⟩ (Nat.le_of_ble_eq_true rfl) (c_X11_isIn hc4) ?_
  refine ev_if_eq (tgt := 31) dX11_says_16 rfl h (fun cb h => ?_) (fun cb h => ?_)
  · exact ev_sub (L2 := [(2, (181 : Int)), (9, 0), (9, 0), (9, 0), (9, 0), (9, 0), (9, 0)]) (e_X11_says_31 σ h) ⟨.inr rfl, .inl rfl, .inl rfl, .inl rfl, .inl rfl, .inl rfl, .inl rfl, trivial⟩
  refine ev_iload_n dX11_says_19 rfl ?_
  refine ev_i2lk dX11_says_20 ?_
  refine ev_lconst (x := (1 : Int)) dX11_says_21 (by decide) (by decide) ?_
  refine ev_ldc2 (x := (12 : Int)) dX11_says_22 wc_X11_162 (by decide) (by decide) ?_
  obtain ⟨v5, hc6, h⟩ := bind_of h
  refine ev_invS_v (av := [(1, x3), (1, (1 : Int)), (1, (12 : Int))]) (st := []) (v := (0, v5)) (τ := σ) dX11_says_25 ml_X11_120 mt_X11_isIn rfl ⟨Nat.le_of_ble_eq_true rfl, Nat.le_of_ble_eq_true rfl⟩ (Nat.le_of_ble_eq_true rfl) (c_X11_isIn hc6) ?_
  refine ev_if_ne (tgt := 38) dX11_says_28 rfl h (fun cb h => ?_) (fun cb h => ?_)
  · refine ev_aload_n dX11_says_38 rfl (by decide) ?_
    refine ev_iload_n dX11_says_39 rfl ?_
    obtain ⟨v7, hc8, h⟩ := bind_of h
    refine ev_invV_v (k := (181 : Int)) (av := [(0, x1)]) (st := []) (v := (0, v7)) (τ := σ) dX11_says_40 ml_X11_154 mv_X11_isRow (T := TX11) (ci := 10) rfl sp181 (by decide) (by decide) rfl ⟨Nat.le_of_ble_eq_true rfl, Nat.le_of_ble_eq_true rfl⟩ (Nat.le_of_ble_eq_true rfl) (c_X11_isRow hc8) ?_
    refine ev_if_eq (tgt := 53) dX11_says_43 rfl h (fun cb h => ?_) (fun cb h => ?_)
    · refine ev_aload_n dX11_says_53 rfl (by decide) ?_
      refine ev_getf (j := 4) (t := 2) (x := (185 : Int)) dX11_says_54 cf_X11 wf_X11_19 sp181 (by decide) (by decide) rfl (by decide) (rp181_4 _) ?_
      refine ev_iload_n dX11_says_57 rfl ?_
      refine ev_iald dX11_says_58 sp185 (by decide) (by decide) h (fun h => ?_)
      refine ev_if_ge (tgt := 69) dX11_says_59 rfl h (fun cb h => ?_) (fun cb h => ?_)
      · refine ev_aload_n dX11_says_69 rfl (by decide) ?_
        refine ev_getf (j := 4) (t := 2) (x := (185 : Int)) dX11_says_70 cf_X11 wf_X11_19 sp181 (by decide) (by decide) rfl (by decide) (rp181_4 _) ?_
        refine ev_iload_n dX11_says_73 rfl ?_
        refine ev_iald dX11_says_74 sp185 (by decide) (by decide) h (fun h => ?_)
        refine ev_bipush dX11_says_75 (by decide) (by decide) ?_
        refine ev_isub dX11_says_77 ?_
        refine ev_istoreG dX11_says_78 h rfl (by decide) (fun v9 h => ?_)
        show Ev _ _ _ _ 80 _ _ _ [(2, (181 : Int)), (0, x1), (0, x2), (0, x3), (0, v9), (9, 0), (9, 0)] _
        refine ev_aload_n dX11_says_80 rfl (by decide) ?_
        refine ev_iload dX11_says_81 rfl ?_
        refine ev_iconst dX11_says_83 (by decide) ?_
        obtain ⟨v10, hc11, h⟩ := bind_of h
        refine ev_invV_v (k := (181 : Int)) (av := [(0, v9), (0, (0 : Int))]) (st := []) (v := (0, v10)) (τ := σ) dX11_says_84 ml_X11_128 mv_X11_who (T := TX11) (ci := 10) rfl sp181 (by decide) (by decide) rfl ⟨Nat.le_of_ble_eq_true rfl, Nat.le_of_ble_eq_true rfl⟩ (Nat.le_of_ble_eq_true rfl) (c_X11_who hc11) ?_
        show Ev _ _ _ _ 87 _ _ _ _ _
        refine ev_istore dX11_says_87 rfl (by decide) ?_
        show Ev _ _ _ _ 89 _ _ _ [(2, (181 : Int)), (0, x1), (0, x2), (0, x3), (0, v9), (0, v10), (9, 0)] _
        refine ev_aload_n dX11_says_89 rfl (by decide) ?_
        refine ev_iload dX11_says_90 rfl ?_
        refine ev_iconst dX11_says_92 (by decide) ?_
        obtain ⟨v12, hc13, h⟩ := bind_of h
        refine ev_invV_v (k := (181 : Int)) (av := [(0, v9), (0, (1 : Int))]) (st := []) (v := (0, v12)) (τ := σ) dX11_says_93 ml_X11_128 mv_X11_who (T := TX11) (ci := 10) rfl sp181 (by decide) (by decide) rfl ⟨Nat.le_of_ble_eq_true rfl, Nat.le_of_ble_eq_true rfl⟩ (Nat.le_of_ble_eq_true rfl) (c_X11_who hc13) ?_
        refine ev_istore dX11_says_96 rfl (by decide) ?_
        show Ev _ _ _ _ 98 _ _ _ [(2, (181 : Int)), (0, x1), (0, x2), (0, x3), (0, v9), (0, v10), (0, v12)] _
        refine ev_iload dX11_says_98 rfl ?_
        refine ev_iload_n dX11_says_100 rfl ?_
        obtain ⟨v14, hc15, h⟩ := bind_of h
        refine ev_invS_v (av := [(0, v10), (0, x2)]) (st := []) (v := (0, v14)) (τ := σ) dX11_says_101 ml_X11_164 mt_X11_isUnder rfl ⟨Nat.le_of_ble_eq_true rfl, Nat.le_of_ble_eq_true rfl⟩ (Nat.le_of_ble_eq_true rfl) (c_X11_isUnder hc15) ?_
        refine ev_if_ne (tgt := 114) dX11_says_104 rfl h (fun cb h => ?_) (fun cb h => ?_)
        · refine ev_iload_n dX11_says_114 rfl ?_
          refine ev_by h (fun cs h => ?_) (fun cs0 h => ?_)
          · refine ev_tswIn (off := 33) (tgt := 148) dX11_says_115 (by rw [cs]; decide) (by rw [cs]; decide) (by rw [cs]; rfl) rfl ?_
            refine ev_iload dX11_says_148 rfl ?_
            obtain rfl := Option.some.inj h
            dsimp only
            exact ev_iret dX11_says_150 rfl rfl
          refine ev_by h (fun cs h => ?_) (fun cs1 h => ?_)
          · refine ev_tswIn (off := 36) (tgt := 151) dX11_says_115 (by rw [cs]; decide) (by rw [cs]; decide) (by rw [cs]; rfl) rfl ?_
            refine ev_iload dX11_says_151 rfl ?_
            refine ev_iload dX11_says_153 rfl ?_
            refine ev_iload_n dX11_says_155 rfl ?_
            obtain ⟨v16, hc17, h⟩ := bind_of h
            refine ev_invS_v (av := [(0, v10), (0, v12), (0, x3)]) (st := []) (v := (0, v16)) (τ := σ) dX11_says_156 ml_X11_136 mt_X11_timeOf rfl ⟨Nat.le_of_ble_eq_true rfl, Nat.le_of_ble_eq_true rfl⟩ (Nat.le_of_ble_eq_true rfl) (c_X11_timeOf hc17) ?_
            obtain rfl := Option.some.inj h
            dsimp only
            exact ev_iret dX11_says_159 rfl rfl
          refine ev_by h (fun cs h => ?_) (fun cs2 h => ?_)
          · refine ev_tswIn (off := 45) (tgt := 160) dX11_says_115 (by rw [cs]; decide) (by rw [cs]; decide) (by rw [cs]; rfl) rfl ?_
            refine ev_iload dX11_says_160 rfl ?_
            refine ev_iload dX11_says_162 rfl ?_
            obtain ⟨v18, hc19, h⟩ := bind_of h
            refine ev_invS_v (av := [(0, v10), (0, v12)]) (st := []) (v := (0, v18)) (τ := σ) dX11_says_164 ml_X11_140 mt_X11_restOf rfl ⟨Nat.le_of_ble_eq_true rfl, Nat.le_of_ble_eq_true rfl⟩ (Nat.le_of_ble_eq_true rfl) (c_X11_restOf hc19) ?_
            obtain rfl := Option.some.inj h
            dsimp only
            exact ev_iret dX11_says_167 rfl rfl
          refine ev_by h (fun cs h => ?_) (fun cs3 h => ?_)
          · refine ev_tswIn (off := 36) (tgt := 151) dX11_says_115 (by rw [cs]; decide) (by rw [cs]; decide) (by rw [cs]; rfl) rfl ?_
            refine ev_iload dX11_says_151 rfl ?_
            refine ev_iload dX11_says_153 rfl ?_
            refine ev_iload_n dX11_says_155 rfl ?_
            obtain ⟨v20, hc21, h⟩ := bind_of h
            refine ev_invS_v (av := [(0, v10), (0, v12), (0, x3)]) (st := []) (v := (0, v20)) (τ := σ) dX11_says_156 ml_X11_136 mt_X11_timeOf rfl ⟨Nat.le_of_ble_eq_true rfl, Nat.le_of_ble_eq_true rfl⟩ (Nat.le_of_ble_eq_true rfl) (c_X11_timeOf hc21) ?_
            obtain rfl := Option.some.inj h
            dsimp only
            exact ev_iret dX11_says_159 rfl rfl
          refine ev_by h (fun cs h => ?_) (fun cs4 h => ?_)
          · refine ev_tswIn (off := 45) (tgt := 160) dX11_says_115 (by rw [cs]; decide) (by rw [cs]; decide) (by rw [cs]; rfl) rfl ?_
            refine ev_iload dX11_says_160 rfl ?_
            refine ev_iload dX11_says_162 rfl ?_
            obtain ⟨v22, hc23, h⟩ := bind_of h
            refine ev_invS_v (av := [(0, v10), (0, v12)]) (st := []) (v := (0, v22)) (τ := σ) dX11_says_164 ml_X11_140 mt_X11_restOf rfl ⟨Nat.le_of_ble_eq_true rfl, Nat.le_of_ble_eq_true rfl⟩ (Nat.le_of_ble_eq_true rfl) (c_X11_restOf hc23) ?_
            obtain rfl := Option.some.inj h
            dsimp only
            exact ev_iret dX11_says_167 rfl rfl
          refine ev_tswOut (tgt := 168) dX11_says_115 (by omega) rfl ?_
          refine ev_iload dX11_says_168 rfl ?_
          refine ev_iload dX11_says_170 rfl ?_
          refine ev_iload_n dX11_says_172 rfl ?_
          obtain ⟨v24, hc25, h⟩ := bind_of h
          refine ev_invS_v (av := [(0, v10), (0, v12), (0, x3)]) (st := []) (v := (0, v24)) (τ := σ) dX11_says_173 ml_X11_136 mt_X11_timeOf rfl ⟨Nat.le_of_ble_eq_true rfl, Nat.le_of_ble_eq_true rfl⟩ (Nat.le_of_ble_eq_true rfl) (c_X11_timeOf hc25) ?_
          refine ev_iload dX11_says_176 rfl ?_
          refine ev_iload dX11_says_178 rfl ?_
          obtain ⟨v26, hc27, h⟩ := bind_of h
          refine ev_invS_v (av := [(0, v10), (0, v12)]) (st := [(0, v24)]) (v := (0, v26)) (τ := σ) dX11_says_180 ml_X11_140 mt_X11_restOf rfl ⟨Nat.le_of_ble_eq_true rfl, Nat.le_of_ble_eq_true rfl⟩ (Nat.le_of_ble_eq_true rfl) (c_X11_restOf hc27) ?_
          refine ev_iadd dX11_says_183 ?_
          obtain rfl := Option.some.inj h
          dsimp only
          exact ev_iret dX11_says_184 rfl rfl
        refine ev_aload_n dX11_says_107 rfl (by decide) ?_
        refine ev_bipush dX11_says_108 (by decide) (by decide) ?_
        obtain ⟨v28, hc29, h⟩ := bind_of h
        refine ev_invV_v (k := (181 : Int)) (av := [(0, (-53 : Int))]) (st := []) (v := (0, v28.1)) (τ := v28.2) dX11_says_110 ml_X11_151 mv_X11_no (T := TX11) (ci := 10) rfl sp181 (by decide) (by decide) rfl ⟨Nat.le_of_ble_eq_true rfl, Nat.le_of_ble_eq_true rfl⟩ (Nat.le_of_ble_eq_true rfl) (c_X11_no hc29) ?_
        obtain rfl := Option.some.inj h
        dsimp only
        exact ev_iret dX11_says_113 rfl rfl
      refine ev_aload_n dX11_says_62 rfl (by decide) ?_
      refine ev_bipush dX11_says_63 (by decide) (by decide) ?_
      obtain ⟨v30, hc31, h⟩ := bind_of h
      refine ev_invV_v (k := (181 : Int)) (av := [(0, (-54 : Int))]) (st := []) (v := (0, v30.1)) (τ := v30.2) dX11_says_65 ml_X11_151 mv_X11_no (T := TX11) (ci := 10) rfl sp181 (by decide) (by decide) rfl ⟨Nat.le_of_ble_eq_true rfl, Nat.le_of_ble_eq_true rfl⟩ (Nat.le_of_ble_eq_true rfl) (c_X11_no hc31) ?_
      obtain rfl := Option.some.inj h
      dsimp only
      exact ev_iret dX11_says_68 rfl rfl
    refine ev_aload_n dX11_says_46 rfl (by decide) ?_
    refine ev_bipush dX11_says_47 (by decide) (by decide) ?_
    obtain ⟨v32, hc33, h⟩ := bind_of h
    refine ev_invV_v (k := (181 : Int)) (av := [(0, (-53 : Int))]) (st := []) (v := (0, v32.1)) (τ := v32.2) dX11_says_49 ml_X11_151 mv_X11_no (T := TX11) (ci := 10) rfl sp181 (by decide) (by decide) rfl ⟨Nat.le_of_ble_eq_true rfl, Nat.le_of_ble_eq_true rfl⟩ (Nat.le_of_ble_eq_true rfl) (c_X11_no hc33) ?_
    obtain rfl := Option.some.inj h
    dsimp only
    exact ev_iret dX11_says_52 rfl rfl
  exact ev_sub (L2 := [(2, (181 : Int)), (9, 0), (9, 0), (9, 0), (9, 0), (9, 0), (9, 0)]) (e_X11_says_31 σ h) ⟨.inr rfl, .inl rfl, .inl rfl, .inl rfl, .inl rfl, .inl rfl, .inl rfl, trivial⟩
set_option maxHeartbeats 4000000 in
set_option maxRecDepth 20000 in
theorem e_X11_paper_26 (σ : Mem)  {q : (Int × Mem)} (h : f_X11_paper_26 σ  = some q) : Ev M_X11_paper 218 218 (some (0, q.1), rho, q.2) 26 218 rho σ [(2, (181 : Int)), (9, 0), (9, 0), (9, 0), (9, 0)] [] := by
  unfold f_X11_paper_26 at h
  refine ev_aload_n dX11_paper_26 rfl (by decide) ?_
  refine ev_bipush dX11_paper_27 (by decide) (by decide) ?_
  obtain ⟨v14, hc15, h⟩ := bind_of h
  refine ev_invV_v (k := (181 : Int)) (av := [(0, (-52 : Int))]) (st := []) (v := (0, v14.1)) (τ := v14.2) dX11_paper_29 ml_X11_151 mv_X11_no (T := TX11) (ci := 10) rfl sp181 (by decide) (by decide) rfl ⟨Nat.le_of_ble_eq_true rfl, Nat.le_of_ble_eq_true rfl⟩ (Nat.le_of_ble_eq_true rfl) (c_X11_no hc15) ?_
  obtain rfl := Option.some.inj h
  dsimp only
  exact ev_iret dX11_paper_32 rfl rfl
set_option maxHeartbeats 4000000 in
set_option maxRecDepth 20000 in
theorem c_X11_paper {σ : Mem} {x1 x2 x3 : Int}  {q : (Int × Mem)} (h : f_X11_paper σ x1 x2 x3 = some q) : Ms yX11_paper M_X11_paper 218 218 [(2, (181 : Int)), (0, x1), (0, x2), (0, x3)] rho σ (some (0, q.1), rho, q.2) := by
  refine Ms.of 1 (by decide +kernel) rfl (fun z => absurd z (by decide)) (fun _ _ _ => trivial) rfl rfl ?_
  unfold f_X11_paper at h
  show Ev M_X11_paper 218 218 _ 0 218 rho σ [(2, (181 : Int)), (0, x1), (0, x2), (0, x3), (9, 0)] []
  refine ev_iload_n dX11_paper_0 rfl ?_
  obtain ⟨v1, hc2, h⟩ := bind_of h
  refine ev_invS_v (av := [(0, x1)]) (st := []) (v := (0, v1)) (τ := σ) dX11_paper_1 ml_X11_168 mt_X11_isDay rfl ⟨Nat.le_of_ble_eq_true rfl, Nat.le_of_ble_eq_true rfl⟩ (Nat.le_of_ble_eq_true rfl) (c_X11_isDay hc2) ?_
  refine ev_if_eq (tgt := 26) dX11_paper_4 rfl h (fun cb h => ?_) (fun cb h => ?_)
  · exact ev_sub (L2 := [(2, (181 : Int)), (9, 0), (9, 0), (9, 0), (9, 0)]) (e_X11_paper_26 σ h) ⟨.inr rfl, .inl rfl, .inl rfl, .inl rfl, .inl rfl, trivial⟩
  refine ev_iload_n dX11_paper_7 rfl ?_
  obtain ⟨v3, hc4, h⟩ := bind_of h
  refine ev_invS_v (av := [(0, x2)]) (st := []) (v := (0, v3)) (τ := σ) dX11_paper_8 ml_X11_171 mt_X11_isSlot rfl ⟨Nat.le_of_ble_eq_true rfl, Nat.le_of_ble_eq_true rfl⟩ (Nat.le_of_ble_eq_true rfl) (c_X11_isSlot hc4) ?_
  refine ev_if_eq (tgt := 26) dX11_paper_11 rfl h (fun cb h => ?_) (fun cb h => ?_)
  · exact ev_sub (L2 := [(2, (181 : Int)), (9, 0), (9, 0), (9, 0), (9, 0)]) (e_X11_paper_26 σ h) ⟨.inr rfl, .inl rfl, .inl rfl, .inl rfl, .inl rfl, trivial⟩
  refine ev_iload_n dX11_paper_14 rfl ?_
  refine ev_i2lk dX11_paper_15 ?_
  refine ev_lconst (x := (1 : Int)) dX11_paper_16 (by decide) (by decide) ?_
  refine ev_ldc2 (x := (12 : Int)) dX11_paper_17 wc_X11_162 (by decide) (by decide) ?_
  obtain ⟨v5, hc6, h⟩ := bind_of h
  refine ev_invS_v (av := [(1, x3), (1, (1 : Int)), (1, (12 : Int))]) (st := []) (v := (0, v5)) (τ := σ) dX11_paper_20 ml_X11_120 mt_X11_isIn rfl ⟨Nat.le_of_ble_eq_true rfl, Nat.le_of_ble_eq_true rfl⟩ (Nat.le_of_ble_eq_true rfl) (c_X11_isIn hc6) ?_
  refine ev_if_ne (tgt := 33) dX11_paper_23 rfl h (fun cb h => ?_) (fun cb h => ?_)
  · refine ev_aload_n dX11_paper_33 rfl (by decide) ?_
    refine ev_getf (j := 0) (t := 2) (x := (182 : Int)) dX11_paper_34 cf_X11 wf_X11_7 sp181 (by decide) (by decide) rfl (by decide) (rp181_0 _) ?_
    refine ev_bipush dX11_paper_37 (by decide) (by decide) ?_
    refine ev_iald dX11_paper_39 sp182 (by decide) (by decide) h (fun h => ?_)
    refine ev_bipush dX11_paper_40 (by decide) (by decide) ?_
    refine ev_icmp_ne (tgt := 52) dX11_paper_42 rfl h (fun cb h => ?_) (fun cb h => ?_)
    · refine ev_aload_n dX11_paper_52 rfl (by decide) ?_
      refine ev_getf (j := 0) (t := 2) (x := (182 : Int)) dX11_paper_53 cf_X11 wf_X11_7 sp181 (by decide) (by decide) rfl (by decide) (rp181_0 _) ?_
      refine ev_bipush dX11_paper_56 (by decide) (by decide) ?_
      refine ev_iald dX11_paper_58 sp182 (by decide) (by decide) h (fun h => ?_)
      refine ev_istoreG dX11_paper_59 h rfl (by decide) (fun v7 h => ?_)
      show Ev _ _ _ _ 61 _ _ _ [(2, (181 : Int)), (0, x1), (0, x2), (0, x3), (0, v7)] _
      refine ev_aload_n dX11_paper_61 rfl (by decide) ?_
      refine ev_getf (j := 0) (t := 2) (x := (182 : Int)) dX11_paper_62 cf_X11 wf_X11_7 sp181 (by decide) (by decide) rfl (by decide) (rp181_0 _) ?_
      refine ev_iconst dX11_paper_65 (by decide) ?_
      refine ev_iconst dX11_paper_66 (by decide) ?_
      refine ev_iload dX11_paper_67 rfl ?_
      refine ev_imul dX11_paper_69 ?_
      show Ev _ _ _ _ 70 _ _ _ _ _
      refine ev_iadd dX11_paper_70 ?_
      refine ev_iload_n dX11_paper_71 rfl ?_
      refine ev_iastG dX11_paper_72 sp182 (by decide) (by decide) h (fun σ8 h => ?_)
      refine ev_aload_n dX11_paper_73 rfl (by decide) ?_
      refine ev_getf (j := 0) (t := 2) (x := (182 : Int)) dX11_paper_74 cf_X11 wf_X11_7 sp181 (by decide) (by decide) rfl (by decide) (rp181_0 _) ?_
      refine ev_iconst dX11_paper_77 (by decide) ?_
      refine ev_iconst dX11_paper_78 (by decide) ?_
      refine ev_iload dX11_paper_79 rfl ?_
      refine ev_imul dX11_paper_81 ?_
      refine ev_iadd dX11_paper_82 ?_
      refine ev_iconst dX11_paper_83 (by decide) ?_
      refine ev_iadd dX11_paper_84 ?_
      show Ev _ _ _ _ 85 _ _ _ _ _
      refine ev_iload_n dX11_paper_85 rfl ?_
      refine ev_iastG dX11_paper_86 sp182 (by decide) (by decide) h (fun σ9 h => ?_)
      refine ev_aload_n dX11_paper_87 rfl (by decide) ?_
      refine ev_getf (j := 0) (t := 2) (x := (182 : Int)) dX11_paper_88 cf_X11 wf_X11_7 sp181 (by decide) (by decide) rfl (by decide) (rp181_0 _) ?_
      refine ev_iconst dX11_paper_91 (by decide) ?_
      refine ev_iconst dX11_paper_92 (by decide) ?_
      refine ev_iload dX11_paper_93 rfl ?_
      refine ev_imul dX11_paper_95 ?_
      refine ev_iadd dX11_paper_96 ?_
      refine ev_iconst dX11_paper_97 (by decide) ?_
      refine ev_iadd dX11_paper_98 ?_
      refine ev_iload_n dX11_paper_99 rfl ?_
      show Ev _ _ _ _ 100 _ _ _ _ _
      refine ev_iastG dX11_paper_100 sp182 (by decide) (by decide) h (fun σ10 h => ?_)
      refine ev_aload_n dX11_paper_101 rfl (by decide) ?_
      refine ev_getf (j := 0) (t := 2) (x := (182 : Int)) dX11_paper_102 cf_X11 wf_X11_7 sp181 (by decide) (by decide) rfl (by decide) (rp181_0 _) ?_
      refine ev_bipush dX11_paper_105 (by decide) (by decide) ?_
      refine ev_dup2 dX11_paper_107 (show (0 : Nat) ≠ 1 by decide) (show (2 : Nat) ≠ 1 by decide) ?_
      refine ev_iald dX11_paper_108 sp182 (by decide) (by decide) h (fun h => ?_)
      refine ev_iconst dX11_paper_109 (by decide) ?_
      refine ev_iadd dX11_paper_110 ?_
      refine ev_iastG dX11_paper_111 sp182 (by decide) (by decide) h (fun σ11 h => ?_)
      refine ev_iload dX11_paper_112 rfl ?_
      obtain rfl := Option.some.inj h
      dsimp only
      exact ev_iret dX11_paper_114 rfl rfl
    refine ev_aload_n dX11_paper_45 rfl (by decide) ?_
    refine ev_bipush dX11_paper_46 (by decide) (by decide) ?_
    obtain ⟨v12, hc13, h⟩ := bind_of h
    refine ev_invV_v (k := (181 : Int)) (av := [(0, (-56 : Int))]) (st := []) (v := (0, v12.1)) (τ := v12.2) dX11_paper_48 ml_X11_151 mv_X11_no (T := TX11) (ci := 10) rfl sp181 (by decide) (by decide) rfl ⟨Nat.le_of_ble_eq_true rfl, Nat.le_of_ble_eq_true rfl⟩ (Nat.le_of_ble_eq_true rfl) (c_X11_no hc13) ?_
    obtain rfl := Option.some.inj h
    dsimp only
    exact ev_iret dX11_paper_51 rfl rfl
  exact ev_sub (L2 := [(2, (181 : Int)), (9, 0), (9, 0), (9, 0), (9, 0)]) (e_X11_paper_26 σ h) ⟨.inr rfl, .inl rfl, .inl rfl, .inl rfl, .inl rfl, trivial⟩
set_option maxHeartbeats 4000000 in
set_option maxRecDepth 20000 in
theorem c_X11_becomes {σ : Mem} {x1 x2 : Int}  {q : (Int × Mem)} (h : f_X11_becomes σ x1 x2 = some q) : Ms yX11_becomes M_X11_becomes 218 218 [(2, (181 : Int)), (0, x1), (0, x2)] rho σ (some (0, q.1), rho, q.2) := by
  refine Ms.of 1 (by decide +kernel) rfl (fun z => absurd z (by decide)) (fun _ _ _ => trivial) rfl rfl ?_
  unfold f_X11_becomes at h
  show Ev M_X11_becomes 218 218 _ 0 218 rho σ [(2, (181 : Int)), (0, x1), (0, x2), (9, 0)] []
  refine ev_aload_n dX11_becomes_0 rfl (by decide) ?_
  refine ev_getf (j := 0) (t := 2) (x := (182 : Int)) dX11_becomes_1 cf_X11 wf_X11_7 sp181 (by decide) (by decide) rfl (by decide) (rp181_0 _) ?_
  refine ev_iload_n dX11_becomes_4 rfl ?_
  refine ev_iald dX11_becomes_5 sp182 (by decide) (by decide) h (fun h => ?_)
  refine ev_istore_nG dX11_becomes_6 h rfl (by decide) (fun v1 h => ?_)
  show Ev _ _ _ _ 7 _ _ _ [(2, (181 : Int)), (0, x1), (0, x2), (0, v1)] _
  refine ev_aload_n dX11_becomes_7 rfl (by decide) ?_
  refine ev_getf (j := 0) (t := 2) (x := (182 : Int)) dX11_becomes_8 cf_X11 wf_X11_7 sp181 (by decide) (by decide) rfl (by decide) (rp181_0 _) ?_
  refine ev_iload_n dX11_becomes_11 rfl ?_
  refine ev_iload_n dX11_becomes_12 rfl ?_
  refine ev_iastG dX11_becomes_13 sp182 (by decide) (by decide) h (fun σ2 h => ?_)
  refine ev_iload_n dX11_becomes_14 rfl ?_
  show Ev _ _ _ _ 15 _ _ _ _ _
  obtain rfl := Option.some.inj h
  dsimp only
  exact ev_iret dX11_becomes_15 rfl rfl
set_option maxHeartbeats 4000000 in
set_option maxRecDepth 20000 in
theorem e_X11_starts_30 (σ : Mem)  {q : (Int × Mem)} (h : f_X11_starts_30 σ  = some q) : Ev M_X11_starts 218 218 (some (0, q.1), rho, q.2) 30 218 rho σ [(2, (181 : Int)), (9, 0), (9, 0)] [] := by
  unfold f_X11_starts_30 at h
  refine ev_aload_n dX11_starts_30 rfl (by decide) ?_
  refine ev_bipush dX11_starts_31 (by decide) (by decide) ?_
  obtain ⟨v7, hc8, h⟩ := bind_of h
  refine ev_invV_v (k := (181 : Int)) (av := [(0, (-52 : Int))]) (st := []) (v := (0, v7.1)) (τ := v7.2) dX11_starts_33 ml_X11_151 mv_X11_no (T := TX11) (ci := 10) rfl sp181 (by decide) (by decide) rfl ⟨Nat.le_of_ble_eq_true rfl, Nat.le_of_ble_eq_true rfl⟩ (Nat.le_of_ble_eq_true rfl) (c_X11_no hc8) ?_
  obtain rfl := Option.some.inj h
  dsimp only
  exact ev_iret dX11_starts_36 rfl rfl
set_option maxHeartbeats 4000000 in
set_option maxRecDepth 20000 in
theorem c_X11_starts {σ : Mem} {x1 x2 : Int}  {q : (Int × Mem)} (h : f_X11_starts σ x1 x2 = some q) : Ms yX11_starts M_X11_starts 218 218 [(2, (181 : Int)), (0, x1), (0, x2)] rho σ (some (0, q.1), rho, q.2) := by
  refine Ms.of 0 (by decide +kernel) rfl (fun z => absurd z (by decide)) (fun _ _ _ => trivial) rfl rfl ?_
  unfold f_X11_starts at h
  show Ev M_X11_starts 218 218 _ 0 218 rho σ [(2, (181 : Int)), (0, x1), (0, x2)] []
  refine ev_aload_n dX11_starts_0 rfl (by decide) ?_
  refine ev_iload_n dX11_starts_1 rfl ?_
  obtain ⟨v1, hc2, h⟩ := bind_of h
  refine ev_invV_v (k := (181 : Int)) (av := [(0, x1)]) (st := []) (v := (0, v1)) (τ := σ) dX11_starts_2 ml_X11_174 mv_X11_isPaper (T := TX11) (ci := 10) rfl sp181 (by decide) (by decide) rfl ⟨Nat.le_of_ble_eq_true rfl, Nat.le_of_ble_eq_true rfl⟩ (Nat.le_of_ble_eq_true rfl) (c_X11_isPaper hc2) ?_
  refine ev_if_eq (tgt := 30) dX11_starts_5 rfl h (fun cb h => ?_) (fun cb h => ?_)
  · exact ev_sub (L2 := [(2, (181 : Int)), (9, 0), (9, 0)]) (e_X11_starts_30 σ h) ⟨.inr rfl, .inl rfl, .inl rfl, trivial⟩
  refine ev_iload_n dX11_starts_8 rfl ?_
  obtain ⟨v3, hc4, h⟩ := bind_of h
  refine ev_invS_v (av := [(0, x2)]) (st := []) (v := (0, v3)) (τ := σ) dX11_starts_9 ml_X11_171 mt_X11_isSlot rfl ⟨Nat.le_of_ble_eq_true rfl, Nat.le_of_ble_eq_true rfl⟩ (Nat.le_of_ble_eq_true rfl) (c_X11_isSlot hc4) ?_
  refine ev_if_eq (tgt := 30) dX11_starts_12 rfl h (fun cb h => ?_) (fun cb h => ?_)
  · exact ev_sub (L2 := [(2, (181 : Int)), (9, 0), (9, 0)]) (e_X11_starts_30 σ h) ⟨.inr rfl, .inl rfl, .inl rfl, trivial⟩
  refine ev_aload_n dX11_starts_15 rfl (by decide) ?_
  refine ev_iconst dX11_starts_16 (by decide) ?_
  refine ev_iconst dX11_starts_17 (by decide) ?_
  refine ev_iload_n dX11_starts_18 rfl ?_
  refine ev_imul dX11_starts_19 ?_
  refine ev_iadd dX11_starts_20 ?_
  refine ev_iconst dX11_starts_21 (by decide) ?_
  refine ev_iadd dX11_starts_22 ?_
  refine ev_iload_n dX11_starts_23 rfl ?_
  obtain ⟨v5, hc6, h⟩ := bind_of h
  refine ev_invV_v (k := (181 : Int)) (av := [(0, (jadd (jadd (0 : Int) (jmul (3 : Int) x1)) (1 : Int))), (0, x2)]) (st := []) (v := (0, v5.1)) (τ := v5.2) dX11_starts_24 ml_X11_177 mv_X11_becomes (T := TX11) (ci := 10) rfl sp181 (by decide) (by decide) rfl ⟨Nat.le_of_ble_eq_true rfl, Nat.le_of_ble_eq_true rfl⟩ (Nat.le_of_ble_eq_true rfl) (c_X11_becomes hc6) ?_
  refine ev_goto (tgt := 36) dX11_starts_27 rfl ?_
  show Ev _ _ _ _ 36 _ _ _ _ _
  obtain rfl := Option.some.inj h
  dsimp only
  exact ev_iret dX11_starts_36 rfl rfl
set_option maxHeartbeats 4000000 in
set_option maxRecDepth 20000 in
theorem e_X11_cand_24 (σ : Mem)  {q : (Int × Mem)} (h : f_X11_cand_24 σ  = some q) : Ev M_X11_cand 218 218 (some (0, q.1), rho, q.2) 24 218 rho σ [(2, (181 : Int)), (9, 0), (9, 0), (9, 0)] [] := by
  unfold f_X11_cand_24 at h
  refine ev_aload_n dX11_cand_24 rfl (by decide) ?_
  refine ev_bipush dX11_cand_25 (by decide) (by decide) ?_
  obtain ⟨v13, hc14, h⟩ := bind_of h
  refine ev_invV_v (k := (181 : Int)) (av := [(0, (-52 : Int))]) (st := []) (v := (0, v13.1)) (τ := v13.2) dX11_cand_27 ml_X11_151 mv_X11_no (T := TX11) (ci := 10) rfl sp181 (by decide) (by decide) rfl ⟨Nat.le_of_ble_eq_true rfl, Nat.le_of_ble_eq_true rfl⟩ (Nat.le_of_ble_eq_true rfl) (c_X11_no hc14) ?_
  obtain rfl := Option.some.inj h
  dsimp only
  exact ev_iret dX11_cand_30 rfl rfl
set_option maxHeartbeats 4000000 in
set_option maxRecDepth 20000 in
theorem c_X11_cand {σ : Mem} {x1 x2 : Int}  {q : (Int × Mem)} (h : f_X11_cand σ x1 x2 = some q) : Ms yX11_cand M_X11_cand 218 218 [(2, (181 : Int)), (0, x1), (0, x2)] rho σ (some (0, q.1), rho, q.2) := by
  refine Ms.of 1 (by decide +kernel) rfl (fun z => absurd z (by decide)) (fun _ _ _ => trivial) rfl rfl ?_
  unfold f_X11_cand at h
  show Ev M_X11_cand 218 218 _ 0 218 rho σ [(2, (181 : Int)), (0, x1), (0, x2), (9, 0)] []
  refine ev_iload_n dX11_cand_0 rfl ?_
  refine ev_i2lk dX11_cand_1 ?_
  refine ev_lconst (x := (0 : Int)) dX11_cand_2 (by decide) (by decide) ?_
  refine ev_ldc2 (x := (5 : Int)) dX11_cand_3 wc_X11_160 (by decide) (by decide) ?_
  obtain ⟨v1, hc2, h⟩ := bind_of h
  refine ev_invS_v (av := [(1, x1), (1, (0 : Int)), (1, (5 : Int))]) (st := []) (v := (0, v1)) (τ := σ) dX11_cand_6 ml_X11_120 mt_X11_isIn rfl ⟨Nat.le_of_ble_eq_true rfl, Nat.le_of_ble_eq_true rfl⟩ (Nat.le_of_ble_eq_true rfl) (c_X11_isIn hc2) ?_
  refine ev_if_eq (tgt := 24) dX11_cand_9 rfl h (fun cb h => ?_) (fun cb h => ?_)
  · exact ev_sub (L2 := [(2, (181 : Int)), (9, 0), (9, 0), (9, 0)]) (e_X11_cand_24 σ h) ⟨.inr rfl, .inl rfl, .inl rfl, .inl rfl, trivial⟩
  refine ev_iload_n dX11_cand_12 rfl ?_
  refine ev_i2lk dX11_cand_13 ?_
  refine ev_lconst (x := (0 : Int)) dX11_cand_14 (by decide) (by decide) ?_
  refine ev_ldc2 (x := (9 : Int)) dX11_cand_15 wc_X11_180 (by decide) (by decide) ?_
  obtain ⟨v3, hc4, h⟩ := bind_of h
  refine ev_invS_v (av := [(1, x2), (1, (0 : Int)), (1, (9 : Int))]) (st := []) (v := (0, v3)) (τ := σ) dX11_cand_18 ml_X11_120 mt_X11_isIn rfl ⟨Nat.le_of_ble_eq_true rfl, Nat.le_of_ble_eq_true rfl⟩ (Nat.le_of_ble_eq_true rfl) (c_X11_isIn hc4) ?_
  refine ev_if_ne (tgt := 31) dX11_cand_21 rfl h (fun cb h => ?_) (fun cb h => ?_)
  · refine ev_aload_n dX11_cand_31 rfl (by decide) ?_
    refine ev_getf (j := 0) (t := 2) (x := (182 : Int)) dX11_cand_32 cf_X11 wf_X11_7 sp181 (by decide) (by decide) rfl (by decide) (rp181_0 _) ?_
    refine ev_bipush dX11_cand_35 (by decide) (by decide) ?_
    refine ev_iald dX11_cand_37 sp182 (by decide) (by decide) h (fun h => ?_)
    refine ev_bipush dX11_cand_38 (by decide) (by decide) ?_
    refine ev_icmp_ne (tgt := 50) dX11_cand_40 rfl h (fun cb h => ?_) (fun cb h => ?_)
    · refine ev_aload_n dX11_cand_50 rfl (by decide) ?_
      refine ev_getf (j := 0) (t := 2) (x := (182 : Int)) dX11_cand_51 cf_X11 wf_X11_7 sp181 (by decide) (by decide) rfl (by decide) (rp181_0 _) ?_
      refine ev_bipush dX11_cand_54 (by decide) (by decide) ?_
      refine ev_iald dX11_cand_56 sp182 (by decide) (by decide) h (fun h => ?_)
      refine ev_istore_nG dX11_cand_57 h rfl (by decide) (fun v5 h => ?_)
      show Ev _ _ _ _ 58 _ _ _ [(2, (181 : Int)), (0, x1), (0, x2), (0, v5)] _
      refine ev_aload_n dX11_cand_58 rfl (by decide) ?_
      refine ev_getf (j := 0) (t := 2) (x := (182 : Int)) dX11_cand_59 cf_X11 wf_X11_7 sp181 (by decide) (by decide) rfl (by decide) (rp181_0 _) ?_
      refine ev_bipush dX11_cand_62 (by decide) (by decide) ?_
      refine ev_iconst dX11_cand_64 (by decide) ?_
      refine ev_iload_n dX11_cand_65 rfl ?_
      refine ev_imul dX11_cand_66 ?_
      show Ev _ _ _ _ 67 _ _ _ _ _
      refine ev_iadd dX11_cand_67 ?_
      refine ev_iload_n dX11_cand_68 rfl ?_
      refine ev_iastG dX11_cand_69 sp182 (by decide) (by decide) h (fun σ6 h => ?_)
      refine ev_aload_n dX11_cand_70 rfl (by decide) ?_
      refine ev_getf (j := 0) (t := 2) (x := (182 : Int)) dX11_cand_71 cf_X11 wf_X11_7 sp181 (by decide) (by decide) rfl (by decide) (rp181_0 _) ?_
      refine ev_bipush dX11_cand_74 (by decide) (by decide) ?_
      refine ev_iconst dX11_cand_76 (by decide) ?_
      refine ev_iload_n dX11_cand_77 rfl ?_
      refine ev_imul dX11_cand_78 ?_
      refine ev_iadd dX11_cand_79 ?_
      refine ev_iconst dX11_cand_80 (by decide) ?_
      refine ev_iadd dX11_cand_81 ?_
      show Ev _ _ _ _ 82 _ _ _ _ _
      refine ev_iload_n dX11_cand_82 rfl ?_
      refine ev_iastG dX11_cand_83 sp182 (by decide) (by decide) h (fun σ7 h => ?_)
      refine ev_aload_n dX11_cand_84 rfl (by decide) ?_
      refine ev_getf (j := 0) (t := 2) (x := (182 : Int)) dX11_cand_85 cf_X11 wf_X11_7 sp181 (by decide) (by decide) rfl (by decide) (rp181_0 _) ?_
      refine ev_bipush dX11_cand_88 (by decide) (by decide) ?_
      refine ev_iconst dX11_cand_90 (by decide) ?_
      refine ev_iload_n dX11_cand_91 rfl ?_
      refine ev_imul dX11_cand_92 ?_
      refine ev_iadd dX11_cand_93 ?_
      refine ev_iconst dX11_cand_94 (by decide) ?_
      refine ev_iadd dX11_cand_95 ?_
      refine ev_iconst dX11_cand_96 (by decide) ?_
      show Ev _ _ _ _ 97 _ _ _ _ _
      refine ev_iastG dX11_cand_97 sp182 (by decide) (by decide) h (fun σ8 h => ?_)
      refine ev_aload_n dX11_cand_98 rfl (by decide) ?_
      refine ev_getf (j := 0) (t := 2) (x := (182 : Int)) dX11_cand_99 cf_X11 wf_X11_7 sp181 (by decide) (by decide) rfl (by decide) (rp181_0 _) ?_
      refine ev_bipush dX11_cand_102 (by decide) (by decide) ?_
      refine ev_iconst dX11_cand_104 (by decide) ?_
      refine ev_iload_n dX11_cand_105 rfl ?_
      refine ev_imul dX11_cand_106 ?_
      refine ev_iadd dX11_cand_107 ?_
      refine ev_iconst dX11_cand_108 (by decide) ?_
      refine ev_iadd dX11_cand_109 ?_
      refine ev_iconst dX11_cand_110 (by decide) ?_
      refine ev_iastG dX11_cand_111 sp182 (by decide) (by decide) h (fun σ9 h => ?_)
      show Ev _ _ _ _ 112 _ _ _ _ _
      refine ev_aload_n dX11_cand_112 rfl (by decide) ?_
      refine ev_getf (j := 0) (t := 2) (x := (182 : Int)) dX11_cand_113 cf_X11 wf_X11_7 sp181 (by decide) (by decide) rfl (by decide) (rp181_0 _) ?_
      refine ev_bipush dX11_cand_116 (by decide) (by decide) ?_
      refine ev_dup2 dX11_cand_118 (show (0 : Nat) ≠ 1 by decide) (show (2 : Nat) ≠ 1 by decide) ?_
      refine ev_iald dX11_cand_119 sp182 (by decide) (by decide) h (fun h => ?_)
      refine ev_iconst dX11_cand_120 (by decide) ?_
      refine ev_iadd dX11_cand_121 ?_
      refine ev_iastG dX11_cand_122 sp182 (by decide) (by decide) h (fun σ10 h => ?_)
      refine ev_iload_n dX11_cand_123 rfl ?_
      obtain rfl := Option.some.inj h
      dsimp only
      exact ev_iret dX11_cand_124 rfl rfl
    refine ev_aload_n dX11_cand_43 rfl (by decide) ?_
    refine ev_bipush dX11_cand_44 (by decide) (by decide) ?_
    obtain ⟨v11, hc12, h⟩ := bind_of h
    refine ev_invV_v (k := (181 : Int)) (av := [(0, (-56 : Int))]) (st := []) (v := (0, v11.1)) (τ := v11.2) dX11_cand_46 ml_X11_151 mv_X11_no (T := TX11) (ci := 10) rfl sp181 (by decide) (by decide) rfl ⟨Nat.le_of_ble_eq_true rfl, Nat.le_of_ble_eq_true rfl⟩ (Nat.le_of_ble_eq_true rfl) (c_X11_no hc12) ?_
    obtain rfl := Option.some.inj h
    dsimp only
    exact ev_iret dX11_cand_49 rfl rfl
  exact ev_sub (L2 := [(2, (181 : Int)), (9, 0), (9, 0), (9, 0)]) (e_X11_cand_24 σ h) ⟨.inr rfl, .inl rfl, .inl rfl, .inl rfl, trivial⟩
def K_X11_ofDay_5 (σ : Mem) (x1 x2 : Int) (r : Option V × Mem × Mem) : (Int × Int) ⊕ ((Int)) → Prop := Sum.elim (fun a => Ev M_X11_ofDay 218 218 r 5 218 rho σ [(2, (181 : Int)), (0, x1), (0, x2), (0, a.1), (0, a.2)] []) (fun e => Ev M_X11_ofDay 218 218 r 54 218 rho σ [(9, 0), (9, 0), (9, 0), (0, e), (9, 0)] [])
set_option maxHeartbeats 4000000 in
set_option maxRecDepth 20000 in
theorem e_X11_ofDay_46 (σ : Mem) (x1 x2 x4 s1 s0 : Int)  {q : ((Int × Int) ⊕ ((Int)))} (h : f_X11_ofDay_46 σ x1 x2 x4 s1 s0 = some q) {r : Option V × Mem × Mem} (K : K_X11_ofDay_5 σ x1 x2 r q) : Ev M_X11_ofDay 218 218 r 46 218 rho σ [(2, (181 : Int)), (0, x1), (0, x2), (9, 0), (0, x4)] [(0, s1), (0, s0)] := by
  unfold f_X11_ofDay_46 at h
  refine ev_ior dX11_ofDay_46 ?_
  refine ev_istore_nG dX11_ofDay_47 h rfl (by decide) (fun v5 h => ?_)
  show Ev _ _ _ _ 48 _ _ _ [(2, (181 : Int)), (0, x1), (0, x2), (0, v5), (0, x4)] _
  refine ev_iincG dX11_ofDay_48 rfl h rfl (fun v6 h => ?_)
  show Ev _ _ _ _ 51 _ _ _ [(2, (181 : Int)), (0, x1), (0, x2), (0, v5), (0, v6)] _
  refine ev_goto (tgt := 5) dX11_ofDay_51 rfl ?_
  obtain rfl := Option.some.inj h
  exact ev_sub (L2 := [(2, (181 : Int)), (0, x1), (0, x2), (0, v5), (0, v6)]) K ⟨.inr rfl, .inr rfl, .inr rfl, .inr rfl, .inr rfl, trivial⟩
set_option maxHeartbeats 4000000 in
set_option maxRecDepth 20000 in
theorem e_X11_ofDay_45 (σ : Mem) (x1 x2 x4 s0 : Int)  {q : ((Int × Int) ⊕ ((Int)))} (h : f_X11_ofDay_45 σ x1 x2 x4 s0 = some q) {r : Option V × Mem × Mem} (K : K_X11_ofDay_5 σ x1 x2 r q) : Ev M_X11_ofDay 218 218 r 45 218 rho σ [(2, (181 : Int)), (0, x1), (0, x2), (9, 0), (0, x4)] [(0, s0)] := by
  unfold f_X11_ofDay_45 at h
  refine ev_iconst dX11_ofDay_45 (by decide) ?_
  exact ev_sub (L2 := [(2, (181 : Int)), (0, x1), (0, x2), (9, 0), (0, x4)]) (e_X11_ofDay_46 σ x1 x2 x4 (0 : Int) s0 h K) ⟨.inr rfl, .inr rfl, .inr rfl, .inl rfl, .inr rfl, trivial⟩
set_option maxHeartbeats 4000000 in
set_option maxRecDepth 20000 in
theorem b_X11_ofDay_5 (σ : Mem) (x1 x2 : Int)  {r : Option V × Mem × Mem} : ∀ a x, f_X11_ofDay_5B σ x1 x2 a = some x → K_X11_ofDay_5 σ x1 x2 r x → K_X11_ofDay_5 σ x1 x2 r (.inl a) := by
  intro a x h K
  obtain ⟨x3, x4⟩ := a
  have h : f_X11_ofDay_5C σ x1 x2 x3 x4 = some x := h
  unfold f_X11_ofDay_5C at h
  show Ev M_X11_ofDay 218 218 r 5 218 rho σ [(2, (181 : Int)), (0, x1), (0, x2), (0, x3), (0, x4)] []
  refine ev_iload dX11_ofDay_5 rfl ?_
  refine ev_aload_n dX11_ofDay_7 rfl (by decide) ?_
  refine ev_getf (j := 0) (t := 2) (x := (182 : Int)) dX11_ofDay_8 cf_X11 wf_X11_7 sp181 (by decide) (by decide) rfl (by decide) (rp181_0 _) ?_
  refine ev_bipush dX11_ofDay_11 (by decide) (by decide) ?_
  refine ev_iald dX11_ofDay_13 sp182 (by decide) (by decide) h (fun h => ?_)
  refine ev_icmp_ge (tgt := 54) dX11_ofDay_14 rfl h (fun cb h => ?_) (fun cb h => ?_)
  · obtain rfl := Option.some.inj h
    exact ev_sub (L2 := [(9, 0), (9, 0), (9, 0), (0, x3), (9, 0)]) K ⟨.inl rfl, .inl rfl, .inl rfl, .inr rfl, .inl rfl, trivial⟩
  refine ev_iload_n dX11_ofDay_17 rfl ?_
  refine ev_aload_n dX11_ofDay_18 rfl (by decide) ?_
  refine ev_iload_n dX11_ofDay_19 rfl ?_
  refine ev_iload dX11_ofDay_20 rfl ?_
  obtain ⟨v1, hc2, h⟩ := bind_of h
  refine ev_invV_v (k := (181 : Int)) (av := [(0, x1), (0, x4)]) (st := [(0, x3)]) (v := (0, v1)) (τ := σ) dX11_ofDay_22 ml_X11_182 mv_X11_has (T := TX11) (ci := 10) rfl sp181 (by decide) (by decide) rfl ⟨Nat.le_of_ble_eq_true rfl, Nat.le_of_ble_eq_true rfl⟩ (Nat.le_of_ble_eq_true rfl) (c_X11_has hc2) ?_
  refine ev_if_eq (tgt := 45) dX11_ofDay_25 rfl h (fun cb h => ?_) (fun cb h => ?_)
  · exact ev_sub (L2 := [(2, (181 : Int)), (0, x1), (0, x2), (9, 0), (0, x4)]) (e_X11_ofDay_45 σ x1 x2 x4 x3 h K) ⟨.inr rfl, .inr rfl, .inr rfl, .inl rfl, .inr rfl, trivial⟩
  refine ev_aload_n dX11_ofDay_28 rfl (by decide) ?_
  refine ev_iload dX11_ofDay_29 rfl ?_
  obtain ⟨v3, hc4, h⟩ := bind_of h
  refine ev_invV_v (k := (181 : Int)) (av := [(0, x4)]) (st := [(0, x3)]) (v := (0, v3)) (τ := σ) dX11_ofDay_31 ml_X11_185 mv_X11_day (T := TX11) (ci := 10) rfl sp181 (by decide) (by decide) rfl ⟨Nat.le_of_ble_eq_true rfl, Nat.le_of_ble_eq_true rfl⟩ (Nat.le_of_ble_eq_true rfl) (c_X11_day hc4) ?_
  refine ev_iload_n dX11_ofDay_34 rfl ?_
  refine ev_icmp_ne (tgt := 45) dX11_ofDay_35 rfl h (fun cb h => ?_) (fun cb h => ?_)
  · exact ev_sub (L2 := [(2, (181 : Int)), (0, x1), (0, x2), (9, 0), (0, x4)]) (e_X11_ofDay_45 σ x1 x2 x4 x3 h K) ⟨.inr rfl, .inr rfl, .inr rfl, .inl rfl, .inr rfl, trivial⟩
  refine ev_iconst dX11_ofDay_38 (by decide) ?_
  refine ev_iload dX11_ofDay_39 rfl ?_
  refine ev_ishl dX11_ofDay_41 ?_
  refine ev_goto (tgt := 46) dX11_ofDay_42 rfl ?_
  exact ev_sub (L2 := [(2, (181 : Int)), (0, x1), (0, x2), (9, 0), (0, x4)]) (e_X11_ofDay_46 σ x1 x2 x4 (jshl (1 : Int) x4) x3 h K) ⟨.inr rfl, .inr rfl, .inr rfl, .inl rfl, .inr rfl, trivial⟩
set_option maxHeartbeats 4000000 in
set_option maxRecDepth 20000 in
theorem e_X11_ofDay_5 (σ : Mem) (x1 x2 x3 x4 : Int)  {q : Int} (h : f_X11_ofDay_5 σ x1 x2 x3 x4 = some q) : Ev M_X11_ofDay 218 218 (some (0, q), rho, σ) 5 218 rho σ [(2, (181 : Int)), (0, x1), (0, x2), (0, x3), (0, x4)] [] := by
  unfold f_X11_ofDay_5 at h
  obtain ⟨e, hl, h⟩ := bind_of h
  refine loop_ev (K := K_X11_ofDay_5 σ x1 x2 (some (0, q), rho, σ)) (b_X11_ofDay_5 σ x1 x2) FU (x3, x4) e hl ?_
  show Ev M_X11_ofDay 218 218 _ 54 218 rho σ [(9, 0), (9, 0), (9, 0), (0, e), (9, 0)] []
  replace h : some e = some q := h
  refine ev_iload_n dX11_ofDay_54 rfl ?_
  obtain rfl := Option.some.inj h
  exact ev_iret dX11_ofDay_55 rfl rfl
set_option maxHeartbeats 4000000 in
set_option maxRecDepth 20000 in
theorem c_X11_ofDay {σ : Mem} {x1 x2 : Int}  {q : Int} (h : f_X11_ofDay σ x1 x2 = some q) : Ms yX11_ofDay M_X11_ofDay 218 218 [(2, (181 : Int)), (0, x1), (0, x2)] rho σ (some (0, q), rho, σ) := by
  refine Ms.of 2 (by decide +kernel) rfl (fun z => absurd z (by decide)) (fun _ _ _ => trivial) rfl rfl ?_
  unfold f_X11_ofDay at h
  show Ev M_X11_ofDay 218 218 _ 0 218 rho σ [(2, (181 : Int)), (0, x1), (0, x2), (9, 0), (9, 0)] []
  refine ev_iconst dX11_ofDay_0 (by decide) ?_
  refine ev_istore_n dX11_ofDay_1 rfl (by decide) ?_
  show Ev _ _ _ _ 2 _ _ _ [(2, (181 : Int)), (0, x1), (0, x2), (0, (0 : Int)), (9, 0)] _
  refine ev_iconst dX11_ofDay_2 (by decide) ?_
  refine ev_istore dX11_ofDay_3 rfl (by decide) ?_
  show Ev _ _ _ _ 5 _ _ _ [(2, (181 : Int)), (0, x1), (0, x2), (0, (0 : Int)), (0, (0 : Int))] _
  exact ev_sub (L2 := [(2, (181 : Int)), (0, x1), (0, x2), (0, (0 : Int)), (0, (0 : Int))]) (e_X11_ofDay_5 σ x1 x2 (0 : Int) (0 : Int) h) ⟨.inr rfl, .inr rfl, .inr rfl, .inr rfl, .inr rfl, trivial⟩
set_option maxHeartbeats 4000000 in
set_option maxRecDepth 20000 in
theorem c_X11_isFifth {σ : Mem} {x1 x2 : Int}  {q : Int} (h : f_X11_isFifth σ x1 x2 = some q) : Ms yX11_isFifth M_X11_isFifth 218 218 [(2, (181 : Int)), (0, x1), (0, x2)] rho σ (some (0, q), rho, σ) := by
  refine Ms.of 0 (by decide +kernel) rfl (fun z => absurd z (by decide)) (fun _ _ _ => trivial) rfl rfl ?_
  unfold f_X11_isFifth at h
  show Ev M_X11_isFifth 218 218 _ 0 218 rho σ [(2, (181 : Int)), (0, x1), (0, x2)] []
  refine ev_aload_n dX11_isFifth_0 rfl (by decide) ?_
  refine ev_iload_n dX11_isFifth_1 rfl ?_
  refine ev_iload_n dX11_isFifth_2 rfl ?_
  obtain ⟨v1, hc2, h⟩ := bind_of h
  refine ev_invV_v (k := (181 : Int)) (av := [(0, x1), (0, x2)]) (st := []) (v := (0, v1)) (τ := σ) dX11_isFifth_3 ml_X11_182 mv_X11_has (T := TX11) (ci := 10) rfl sp181 (by decide) (by decide) rfl ⟨Nat.le_of_ble_eq_true rfl, Nat.le_of_ble_eq_true rfl⟩ (Nat.le_of_ble_eq_true rfl) (c_X11_has hc2) ?_
  refine ev_if_ne (tgt := 30) dX11_isFifth_6 rfl h (fun cb h => ?_) (fun cb h => ?_)
  · refine ev_iconst dX11_isFifth_30 (by decide) ?_
    obtain rfl := Option.some.inj h
    exact ev_zret dX11_isFifth_31 rfl (chk_pos (.inl rfl))
  refine ev_aload_n dX11_isFifth_9 rfl (by decide) ?_
  refine ev_iload_n dX11_isFifth_10 rfl ?_
  refine ev_aload_n dX11_isFifth_11 rfl (by decide) ?_
  refine ev_iload_n dX11_isFifth_12 rfl ?_
  obtain ⟨v3, hc4, h⟩ := bind_of h
  refine ev_invV_v (k := (181 : Int)) (av := [(0, x2)]) (st := [(0, x1), (2, (181 : Int))]) (v := (0, v3)) (τ := σ) dX11_isFifth_13 ml_X11_185 mv_X11_day (T := TX11) (ci := 10) rfl sp181 (by decide) (by decide) rfl ⟨Nat.le_of_ble_eq_true rfl, Nat.le_of_ble_eq_true rfl⟩ (Nat.le_of_ble_eq_true rfl) (c_X11_day hc4) ?_
  obtain ⟨v5, hc6, h⟩ := bind_of h
  refine ev_invV_v (k := (181 : Int)) (av := [(0, x1), (0, v3)]) (st := []) (v := (0, v5)) (τ := σ) dX11_isFifth_16 ml_X11_188 mv_X11_ofDay (T := TX11) (ci := 10) rfl sp181 (by decide) (by decide) rfl ⟨Nat.le_of_ble_eq_true rfl, Nat.le_of_ble_eq_true rfl⟩ (Nat.le_of_ble_eq_true rfl) (c_X11_ofDay hc6) ?_
  obtain ⟨v7, hc8, h⟩ := bind_of h
  refine ev_invS_v (av := [(0, v5)]) (st := []) (v := (0, v7)) (τ := σ) dX11_isFifth_19 ml_X11_191 mt_X11_many rfl ⟨Nat.le_of_ble_eq_true rfl, Nat.le_of_ble_eq_true rfl⟩ (Nat.le_of_ble_eq_true rfl) (c_X11_many hc8) ?_
  refine ev_iconst dX11_isFifth_22 (by decide) ?_
  refine ev_icmp_ne (tgt := 30) dX11_isFifth_23 rfl h (fun cb h => ?_) (fun cb h => ?_)
  · refine ev_iconst dX11_isFifth_30 (by decide) ?_
    obtain rfl := Option.some.inj h
    exact ev_zret dX11_isFifth_31 rfl (chk_pos (.inl rfl))
  refine ev_iconst dX11_isFifth_26 (by decide) ?_
  refine ev_goto (tgt := 31) dX11_isFifth_27 rfl ?_
  obtain rfl := Option.some.inj h
  exact ev_zret dX11_isFifth_31 rfl (chk_pos (.inr rfl))
set_option maxHeartbeats 4000000 in
set_option maxRecDepth 20000 in
theorem c_X11_toggles {σ : Mem} {x1 x2 : Int}  {q : Mem} (h : f_X11_toggles σ x1 x2 = some q) : Ms yX11_toggles M_X11_toggles 218 218 [(2, (181 : Int)), (0, x1), (0, x2)] rho σ (none, rho, q) := by
  refine Ms.of 0 (by decide +kernel) rfl (fun z => absurd z (by decide)) (fun _ _ _ => trivial) rfl rfl ?_
  unfold f_X11_toggles at h
  show Ev M_X11_toggles 218 218 _ 0 218 rho σ [(2, (181 : Int)), (0, x1), (0, x2)] []
  refine ev_aload_n dX11_toggles_0 rfl (by decide) ?_
  refine ev_getf (j := 0) (t := 2) (x := (182 : Int)) dX11_toggles_1 cf_X11 wf_X11_7 sp181 (by decide) (by decide) rfl (by decide) (rp181_0 _) ?_
  refine ev_bipush dX11_toggles_4 (by decide) (by decide) ?_
  refine ev_iconst dX11_toggles_6 (by decide) ?_
  refine ev_iload_n dX11_toggles_7 rfl ?_
  refine ev_imul dX11_toggles_8 ?_
  refine ev_iadd dX11_toggles_9 ?_
  refine ev_iconst dX11_toggles_10 (by decide) ?_
  refine ev_iadd dX11_toggles_11 ?_
  refine ev_dup2 dX11_toggles_12 (show (0 : Nat) ≠ 1 by decide) (show (2 : Nat) ≠ 1 by decide) ?_
  refine ev_iald dX11_toggles_13 sp182 (by decide) (by decide) h (fun h => ?_)
  show Ev _ _ _ _ 14 _ _ _ _ _
  refine ev_iconst dX11_toggles_14 (by decide) ?_
  refine ev_iload_n dX11_toggles_15 rfl ?_
  refine ev_ishl dX11_toggles_16 ?_
  refine ev_ixor dX11_toggles_17 ?_
  refine ev_iastG dX11_toggles_18 sp182 (by decide) (by decide) h (fun σ1 h => ?_)
  obtain rfl := Option.some.inj h
  exact ev_vret dX11_toggles_19 rfl rfl
set_option maxHeartbeats 4000000 in
set_option maxRecDepth 20000 in
theorem e_X11_takes_26 (σ : Mem)  {q : (Int × Mem)} (h : f_X11_takes_26 σ  = some q) : Ev M_X11_takes 218 218 (some (0, q.1), rho, q.2) 26 218 rho σ [(2, (181 : Int)), (9, 0), (9, 0), (9, 0), (9, 0)] [] := by
  unfold f_X11_takes_26 at h
  refine ev_aload_n dX11_takes_26 rfl (by decide) ?_
  refine ev_bipush dX11_takes_27 (by decide) (by decide) ?_
  obtain ⟨v9, hc10, h⟩ := bind_of h
  refine ev_invV_v (k := (181 : Int)) (av := [(0, (-52 : Int))]) (st := []) (v := (0, v9.1)) (τ := v9.2) dX11_takes_29 ml_X11_151 mv_X11_no (T := TX11) (ci := 10) rfl sp181 (by decide) (by decide) rfl ⟨Nat.le_of_ble_eq_true rfl, Nat.le_of_ble_eq_true rfl⟩ (Nat.le_of_ble_eq_true rfl) (c_X11_no hc10) ?_
  obtain rfl := Option.some.inj h
  dsimp only
  exact ev_iret dX11_takes_32 rfl rfl
set_option maxHeartbeats 4000000 in
set_option maxRecDepth 20000 in
theorem e_X11_takes_70 (σ : Mem) (x1 x2 x3 x4 : Int)  {q : (Int × Mem)} (h : f_X11_takes_70 σ x1 x2 x3 x4 = some q) : Ev M_X11_takes 218 218 (some (0, q.1), rho, q.2) 70 218 rho σ [(2, (181 : Int)), (0, x1), (0, x2), (0, x3), (0, x4)] [] := by
  unfold f_X11_takes_70 at h
  refine ev_iload dX11_takes_70 rfl ?_
  refine ev_iload_n dX11_takes_72 rfl ?_
  refine ev_icmp_eq (tgt := 82) dX11_takes_73 rfl h (fun cb h => ?_) (fun cb h => ?_)
  · refine ev_iload dX11_takes_82 rfl ?_
    obtain rfl := Option.some.inj h
    dsimp only
    exact ev_iret dX11_takes_84 rfl rfl
  refine ev_aload_n dX11_takes_76 rfl (by decide) ?_
  refine ev_iload_n dX11_takes_77 rfl ?_
  refine ev_iload_n dX11_takes_78 rfl ?_
  obtain ⟨σ15, hc16, h⟩ := bind_of h
  refine ev_invV_n (k := (181 : Int)) (av := [(0, x1), (0, x2)]) (st := []) (τ := σ15) dX11_takes_79 ml_X11_197 mv_X11_toggles (T := TX11) (ci := 10) rfl sp181 (by decide) (by decide) rfl ⟨Nat.le_of_ble_eq_true rfl, Nat.le_of_ble_eq_true rfl⟩ (Nat.le_of_ble_eq_true rfl) (c_X11_toggles hc16) ?_
  refine ev_iload dX11_takes_82 rfl ?_
  obtain rfl := Option.some.inj h
  dsimp only
  exact ev_iret dX11_takes_84 rfl rfl
set_option maxHeartbeats 4000000 in
set_option maxRecDepth 20000 in
theorem e_X11_takes_47 (σ : Mem) (x1 x2 x3 s0 : Int)  {q : (Int × Mem)} (h : f_X11_takes_47 σ x1 x2 x3 s0 = some q) : Ev M_X11_takes 218 218 (some (0, q.1), rho, q.2) 47 218 rho σ [(2, (181 : Int)), (0, x1), (0, x2), (0, x3), (9, 0)] [(0, s0)] := by
  unfold f_X11_takes_47 at h
  refine ev_istore dX11_takes_47 rfl (by decide) ?_
  show Ev _ _ _ _ 49 _ _ _ [(2, (181 : Int)), (0, x1), (0, x2), (0, x3), (0, s0)] _
  refine ev_iload_n dX11_takes_49 rfl ?_
  refine ev_iconst dX11_takes_50 (by decide) ?_
  refine ev_icmp_ne (tgt := 70) dX11_takes_51 rfl h (fun cb h => ?_) (fun cb h => ?_)
  · exact ev_sub (L2 := [(2, (181 : Int)), (0, x1), (0, x2), (0, x3), (0, s0)]) (e_X11_takes_70 σ x1 x2 x3 s0 h) ⟨.inr rfl, .inr rfl, .inr rfl, .inr rfl, .inr rfl, trivial⟩
  refine ev_aload_n dX11_takes_54 rfl (by decide) ?_
  refine ev_iload_n dX11_takes_55 rfl ?_
  refine ev_iload_n dX11_takes_56 rfl ?_
  obtain ⟨v11, hc12, h⟩ := bind_of h
  refine ev_invV_v (k := (181 : Int)) (av := [(0, x1), (0, x2)]) (st := []) (v := (0, v11)) (τ := σ) dX11_takes_57 ml_X11_194 mv_X11_isFifth (T := TX11) (ci := 10) rfl sp181 (by decide) (by decide) rfl ⟨Nat.le_of_ble_eq_true rfl, Nat.le_of_ble_eq_true rfl⟩ (Nat.le_of_ble_eq_true rfl) (c_X11_isFifth hc12) ?_
  refine ev_if_eq (tgt := 70) dX11_takes_60 rfl h (fun cb h => ?_) (fun cb h => ?_)
  · exact ev_sub (L2 := [(2, (181 : Int)), (0, x1), (0, x2), (0, x3), (0, s0)]) (e_X11_takes_70 σ x1 x2 x3 s0 h) ⟨.inr rfl, .inr rfl, .inr rfl, .inr rfl, .inr rfl, trivial⟩
  refine ev_aload_n dX11_takes_63 rfl (by decide) ?_
  refine ev_bipush dX11_takes_64 (by decide) (by decide) ?_
  obtain ⟨v13, hc14, h⟩ := bind_of h
  refine ev_invV_v (k := (181 : Int)) (av := [(0, (-55 : Int))]) (st := []) (v := (0, v13.1)) (τ := v13.2) dX11_takes_66 ml_X11_151 mv_X11_no (T := TX11) (ci := 10) rfl sp181 (by decide) (by decide) rfl ⟨Nat.le_of_ble_eq_true rfl, Nat.le_of_ble_eq_true rfl⟩ (Nat.le_of_ble_eq_true rfl) (c_X11_no hc14) ?_
  obtain rfl := Option.some.inj h
  dsimp only
  exact ev_iret dX11_takes_69 rfl rfl
set_option maxHeartbeats 4000000 in
set_option maxRecDepth 20000 in
theorem c_X11_takes {σ : Mem} {x1 x2 x3 : Int}  {q : (Int × Mem)} (h : f_X11_takes σ x1 x2 x3 = some q) : Ms yX11_takes M_X11_takes 218 218 [(2, (181 : Int)), (0, x1), (0, x2), (0, x3)] rho σ (some (0, q.1), rho, q.2) := by
  refine Ms.of 1 (by decide +kernel) rfl (fun z => absurd z (by decide)) (fun _ _ _ => trivial) rfl rfl ?_
  unfold f_X11_takes at h
  show Ev M_X11_takes 218 218 _ 0 218 rho σ [(2, (181 : Int)), (0, x1), (0, x2), (0, x3), (9, 0)] []
  refine ev_aload_n dX11_takes_0 rfl (by decide) ?_
  refine ev_iload_n dX11_takes_1 rfl ?_
  obtain ⟨v1, hc2, h⟩ := bind_of h
  refine ev_invV_v (k := (181 : Int)) (av := [(0, x1)]) (st := []) (v := (0, v1)) (τ := σ) dX11_takes_2 ml_X11_157 mv_X11_isCand (T := TX11) (ci := 10) rfl sp181 (by decide) (by decide) rfl ⟨Nat.le_of_ble_eq_true rfl, Nat.le_of_ble_eq_true rfl⟩ (Nat.le_of_ble_eq_true rfl) (c_X11_isCand hc2) ?_
  refine ev_if_eq (tgt := 26) dX11_takes_5 rfl h (fun cb h => ?_) (fun cb h => ?_)
  · exact ev_sub (L2 := [(2, (181 : Int)), (9, 0), (9, 0), (9, 0), (9, 0)]) (e_X11_takes_26 σ h) ⟨.inr rfl, .inl rfl, .inl rfl, .inl rfl, .inl rfl, trivial⟩
  refine ev_aload_n dX11_takes_8 rfl (by decide) ?_
  refine ev_iload_n dX11_takes_9 rfl ?_
  obtain ⟨v3, hc4, h⟩ := bind_of h
  refine ev_invV_v (k := (181 : Int)) (av := [(0, x2)]) (st := []) (v := (0, v3)) (τ := σ) dX11_takes_10 ml_X11_174 mv_X11_isPaper (T := TX11) (ci := 10) rfl sp181 (by decide) (by decide) rfl ⟨Nat.le_of_ble_eq_true rfl, Nat.le_of_ble_eq_true rfl⟩ (Nat.le_of_ble_eq_true rfl) (c_X11_isPaper hc4) ?_
  refine ev_if_eq (tgt := 26) dX11_takes_13 rfl h (fun cb h => ?_) (fun cb h => ?_)
  · exact ev_sub (L2 := [(2, (181 : Int)), (9, 0), (9, 0), (9, 0), (9, 0)]) (e_X11_takes_26 σ h) ⟨.inr rfl, .inl rfl, .inl rfl, .inl rfl, .inl rfl, trivial⟩
  refine ev_iload_n dX11_takes_16 rfl ?_
  refine ev_i2lk dX11_takes_17 ?_
  refine ev_lconst (x := (0 : Int)) dX11_takes_18 (by decide) (by decide) ?_
  refine ev_lconst (x := (1 : Int)) dX11_takes_19 (by decide) (by decide) ?_
  obtain ⟨v5, hc6, h⟩ := bind_of h
  refine ev_invS_v (av := [(1, x3), (1, (0 : Int)), (1, (1 : Int))]) (st := []) (v := (0, v5)) (τ := σ) dX11_takes_20 ml_X11_120 mt_X11_isIn rfl ⟨Nat.le_of_ble_eq_true rfl, Nat.le_of_ble_eq_true rfl⟩ (Nat.le_of_ble_eq_true rfl) (c_X11_isIn hc6) ?_
  refine ev_if_ne (tgt := 33) dX11_takes_23 rfl h (fun cb h => ?_) (fun cb h => ?_)
  · refine ev_aload_n dX11_takes_33 rfl (by decide) ?_
    refine ev_iload_n dX11_takes_34 rfl ?_
    refine ev_iload_n dX11_takes_35 rfl ?_
    obtain ⟨v7, hc8, h⟩ := bind_of h
    refine ev_invV_v (k := (181 : Int)) (av := [(0, x1), (0, x2)]) (st := []) (v := (0, v7)) (τ := σ) dX11_takes_36 ml_X11_182 mv_X11_has (T := TX11) (ci := 10) rfl sp181 (by decide) (by decide) rfl ⟨Nat.le_of_ble_eq_true rfl, Nat.le_of_ble_eq_true rfl⟩ (Nat.le_of_ble_eq_true rfl) (c_X11_has hc8) ?_
    refine ev_if_eq (tgt := 46) dX11_takes_39 rfl h (fun cb h => ?_) (fun cb h => ?_)
    · refine ev_iconst dX11_takes_46 (by decide) ?_
      exact ev_sub (L2 := [(2, (181 : Int)), (0, x1), (0, x2), (0, x3), (9, 0)]) (e_X11_takes_47 σ x1 x2 x3 (0 : Int) h) ⟨.inr rfl, .inr rfl, .inr rfl, .inr rfl, .inl rfl, trivial⟩
    refine ev_iconst dX11_takes_42 (by decide) ?_
    refine ev_goto (tgt := 47) dX11_takes_43 rfl ?_
    exact ev_sub (L2 := [(2, (181 : Int)), (0, x1), (0, x2), (0, x3), (9, 0)]) (e_X11_takes_47 σ x1 x2 x3 (1 : Int) h) ⟨.inr rfl, .inr rfl, .inr rfl, .inr rfl, .inl rfl, trivial⟩
  exact ev_sub (L2 := [(2, (181 : Int)), (9, 0), (9, 0), (9, 0), (9, 0)]) (e_X11_takes_26 σ h) ⟨.inr rfl, .inl rfl, .inl rfl, .inl rfl, .inl rfl, trivial⟩
set_option maxHeartbeats 4000000 in
set_option maxRecDepth 20000 in
theorem e_X11_night_34 (σ : Mem)  {q : (Int × Mem)} (h : f_X11_night_34 σ  = some q) : Ev M_X11_night 218 218 (some (0, q.1), rho, q.2) 34 218 rho σ [(2, (181 : Int)), (9, 0), (9, 0)] [] := by
  unfold f_X11_night_34 at h
  refine ev_aload_n dX11_night_34 rfl (by decide) ?_
  refine ev_bipush dX11_night_35 (by decide) (by decide) ?_
  obtain ⟨v7, hc8, h⟩ := bind_of h
  refine ev_invV_v (k := (181 : Int)) (av := [(0, (-52 : Int))]) (st := []) (v := (0, v7.1)) (τ := v7.2) dX11_night_37 ml_X11_151 mv_X11_no (T := TX11) (ci := 10) rfl sp181 (by decide) (by decide) rfl ⟨Nat.le_of_ble_eq_true rfl, Nat.le_of_ble_eq_true rfl⟩ (Nat.le_of_ble_eq_true rfl) (c_X11_no hc8) ?_
  obtain rfl := Option.some.inj h
  dsimp only
  exact ev_iret dX11_night_40 rfl rfl
set_option maxHeartbeats 4000000 in
set_option maxRecDepth 20000 in
theorem c_X11_night {σ : Mem} {x1 x2 : Int}  {q : (Int × Mem)} (h : f_X11_night σ x1 x2 = some q) : Ms yX11_night M_X11_night 218 218 [(2, (181 : Int)), (0, x1), (0, x2)] rho σ (some (0, q.1), rho, q.2) := by
  refine Ms.of 0 (by decide +kernel) rfl (fun z => absurd z (by decide)) (fun _ _ _ => trivial) rfl rfl ?_
  unfold f_X11_night at h
  show Ev M_X11_night 218 218 _ 0 218 rho σ [(2, (181 : Int)), (0, x1), (0, x2)] []
  refine ev_aload_n dX11_night_0 rfl (by decide) ?_
  refine ev_iload_n dX11_night_1 rfl ?_
  obtain ⟨v1, hc2, h⟩ := bind_of h
  refine ev_invV_v (k := (181 : Int)) (av := [(0, x1)]) (st := []) (v := (0, v1)) (τ := σ) dX11_night_2 ml_X11_157 mv_X11_isCand (T := TX11) (ci := 10) rfl sp181 (by decide) (by decide) rfl ⟨Nat.le_of_ble_eq_true rfl, Nat.le_of_ble_eq_true rfl⟩ (Nat.le_of_ble_eq_true rfl) (c_X11_isCand hc2) ?_
  refine ev_if_eq (tgt := 34) dX11_night_5 rfl h (fun cb h => ?_) (fun cb h => ?_)
  · exact ev_sub (L2 := [(2, (181 : Int)), (9, 0), (9, 0)]) (e_X11_night_34 σ h) ⟨.inr rfl, .inl rfl, .inl rfl, trivial⟩
  refine ev_iload_n dX11_night_8 rfl ?_
  refine ev_i2lk dX11_night_9 ?_
  refine ev_lconst (x := (0 : Int)) dX11_night_10 (by decide) (by decide) ?_
  refine ev_lconst (x := (1 : Int)) dX11_night_11 (by decide) (by decide) ?_
  obtain ⟨v3, hc4, h⟩ := bind_of h
  refine ev_invS_v (av := [(1, x2), (1, (0 : Int)), (1, (1 : Int))]) (st := []) (v := (0, v3)) (τ := σ) dX11_night_12 ml_X11_120 mt_X11_isIn rfl ⟨Nat.le_of_ble_eq_true rfl, Nat.le_of_ble_eq_true rfl⟩ (Nat.le_of_ble_eq_true rfl) (c_X11_isIn hc4) ?_
  refine ev_if_eq (tgt := 34) dX11_night_15 rfl h (fun cb h => ?_) (fun cb h => ?_)
  · exact ev_sub (L2 := [(2, (181 : Int)), (9, 0), (9, 0)]) (e_X11_night_34 σ h) ⟨.inr rfl, .inl rfl, .inl rfl, trivial⟩
  refine ev_aload_n dX11_night_18 rfl (by decide) ?_
  refine ev_bipush dX11_night_19 (by decide) (by decide) ?_
  refine ev_iconst dX11_night_21 (by decide) ?_
  refine ev_iload_n dX11_night_22 rfl ?_
  refine ev_imul dX11_night_23 ?_
  refine ev_iadd dX11_night_24 ?_
  refine ev_iconst dX11_night_25 (by decide) ?_
  refine ev_iadd dX11_night_26 ?_
  refine ev_iload_n dX11_night_27 rfl ?_
  obtain ⟨v5, hc6, h⟩ := bind_of h
  refine ev_invV_v (k := (181 : Int)) (av := [(0, (jadd (jadd (36 : Int) (jmul (4 : Int) x1)) (2 : Int))), (0, x2)]) (st := []) (v := (0, v5.1)) (τ := v5.2) dX11_night_28 ml_X11_177 mv_X11_becomes (T := TX11) (ci := 10) rfl sp181 (by decide) (by decide) rfl ⟨Nat.le_of_ble_eq_true rfl, Nat.le_of_ble_eq_true rfl⟩ (Nat.le_of_ble_eq_true rfl) (c_X11_becomes hc6) ?_
  refine ev_goto (tgt := 40) dX11_night_31 rfl ?_
  show Ev _ _ _ _ 40 _ _ _ _ _
  obtain rfl := Option.some.inj h
  dsimp only
  exact ev_iret dX11_night_40 rfl rfl
set_option maxHeartbeats 4000000 in
set_option maxRecDepth 20000 in
theorem c_X11_room {σ : Mem} {x1 : Int}  {q : (Int × Mem)} (h : f_X11_room σ x1 = some q) : Ms yX11_room M_X11_room 218 218 [(2, (181 : Int)), (0, x1)] rho σ (some (0, q.1), rho, q.2) := by
  refine Ms.of 0 (by decide +kernel) rfl (fun z => absurd z (by decide)) (fun _ _ _ => trivial) rfl rfl ?_
  unfold f_X11_room at h
  show Ev M_X11_room 218 218 _ 0 218 rho σ [(2, (181 : Int)), (0, x1)] []
  refine ev_iload_n dX11_room_0 rfl ?_
  refine ev_i2lk dX11_room_1 ?_
  refine ev_lconst (x := (1 : Int)) dX11_room_2 (by decide) (by decide) ?_
  refine ev_ldc2 (x := (9 : Int)) dX11_room_3 wc_X11_180 (by decide) (by decide) ?_
  obtain ⟨v1, hc2, h⟩ := bind_of h
  refine ev_invS_v (av := [(1, x1), (1, (1 : Int)), (1, (9 : Int))]) (st := []) (v := (0, v1)) (τ := σ) dX11_room_6 ml_X11_120 mt_X11_isIn rfl ⟨Nat.le_of_ble_eq_true rfl, Nat.le_of_ble_eq_true rfl⟩ (Nat.le_of_ble_eq_true rfl) (c_X11_isIn hc2) ?_
  refine ev_if_ne (tgt := 19) dX11_room_9 rfl h (fun cb h => ?_) (fun cb h => ?_)
  · refine ev_aload_n dX11_room_19 rfl (by decide) ?_
    refine ev_getf (j := 0) (t := 2) (x := (182 : Int)) dX11_room_20 cf_X11 wf_X11_7 sp181 (by decide) (by decide) rfl (by decide) (rp181_0 _) ?_
    refine ev_bipush dX11_room_23 (by decide) (by decide) ?_
    refine ev_iald dX11_room_25 sp182 (by decide) (by decide) h (fun h => ?_)
    refine ev_bipush dX11_room_26 (by decide) (by decide) ?_
    refine ev_icmp_ne (tgt := 38) dX11_room_28 rfl h (fun cb h => ?_) (fun cb h => ?_)
    · refine ev_aload_n dX11_room_38 rfl (by decide) ?_
      refine ev_getf (j := 0) (t := 2) (x := (182 : Int)) dX11_room_39 cf_X11 wf_X11_7 sp181 (by decide) (by decide) rfl (by decide) (rp181_0 _) ?_
      refine ev_bipush dX11_room_42 (by decide) (by decide) ?_
      refine ev_aload_n dX11_room_44 rfl (by decide) ?_
      refine ev_getf (j := 0) (t := 2) (x := (182 : Int)) dX11_room_45 cf_X11 wf_X11_7 sp181 (by decide) (by decide) rfl (by decide) (rp181_0 _) ?_
      refine ev_bipush dX11_room_48 (by decide) (by decide) ?_
      refine ev_iald dX11_room_50 sp182 (by decide) (by decide) h (fun h => ?_)
      refine ev_iadd dX11_room_51 ?_
      refine ev_iload_n dX11_room_52 rfl ?_
      refine ev_iastG dX11_room_53 sp182 (by decide) (by decide) h (fun σ3 h => ?_)
      refine ev_aload_n dX11_room_54 rfl (by decide) ?_
      show Ev _ _ _ _ 55 _ _ _ _ _
      refine ev_getf (j := 0) (t := 2) (x := (182 : Int)) dX11_room_55 cf_X11 wf_X11_7 sp181 (by decide) (by decide) rfl (by decide) (rp181_0 _) ?_
      refine ev_bipush dX11_room_58 (by decide) (by decide) ?_
      refine ev_dup2 dX11_room_60 (show (0 : Nat) ≠ 1 by decide) (show (2 : Nat) ≠ 1 by decide) ?_
      refine ev_iald dX11_room_61 sp182 (by decide) (by decide) h (fun h => ?_)
      refine ev_iconst dX11_room_62 (by decide) ?_
      refine ev_iadd dX11_room_63 ?_
      refine ev_iastG dX11_room_64 sp182 (by decide) (by decide) h (fun σ4 h => ?_)
      refine ev_aload_n dX11_room_65 rfl (by decide) ?_
      refine ev_getf (j := 0) (t := 2) (x := (182 : Int)) dX11_room_66 cf_X11 wf_X11_7 sp181 (by decide) (by decide) rfl (by decide) (rp181_0 _) ?_
      refine ev_bipush dX11_room_69 (by decide) (by decide) ?_
      refine ev_iald dX11_room_71 sp182 (by decide) (by decide) h (fun h => ?_)
      refine ev_iconst dX11_room_72 (by decide) ?_
      show Ev _ _ _ _ 73 _ _ _ _ _
      refine ev_isub dX11_room_73 ?_
      obtain rfl := Option.some.inj h
      dsimp only
      exact ev_iret dX11_room_74 rfl rfl
    refine ev_aload_n dX11_room_31 rfl (by decide) ?_
    refine ev_bipush dX11_room_32 (by decide) (by decide) ?_
    obtain ⟨v5, hc6, h⟩ := bind_of h
    refine ev_invV_v (k := (181 : Int)) (av := [(0, (-56 : Int))]) (st := []) (v := (0, v5.1)) (τ := v5.2) dX11_room_34 ml_X11_151 mv_X11_no (T := TX11) (ci := 10) rfl sp181 (by decide) (by decide) rfl ⟨Nat.le_of_ble_eq_true rfl, Nat.le_of_ble_eq_true rfl⟩ (Nat.le_of_ble_eq_true rfl) (c_X11_no hc6) ?_
    obtain rfl := Option.some.inj h
    dsimp only
    exact ev_iret dX11_room_37 rfl rfl
  refine ev_aload_n dX11_room_12 rfl (by decide) ?_
  refine ev_bipush dX11_room_13 (by decide) (by decide) ?_
  obtain ⟨v7, hc8, h⟩ := bind_of h
  refine ev_invV_v (k := (181 : Int)) (av := [(0, (-52 : Int))]) (st := []) (v := (0, v7.1)) (τ := v7.2) dX11_room_15 ml_X11_151 mv_X11_no (T := TX11) (ci := 10) rfl sp181 (by decide) (by decide) rfl ⟨Nat.le_of_ble_eq_true rfl, Nat.le_of_ble_eq_true rfl⟩ (Nat.le_of_ble_eq_true rfl) (c_X11_no hc8) ?_
  obtain rfl := Option.some.inj h
  dsimp only
  exact ev_iret dX11_room_18 rfl rfl
set_option maxHeartbeats 4000000 in
set_option maxRecDepth 20000 in
theorem c_X11_hours {σ : Mem} {x1 : Int}  {q : (Int × Mem)} (h : f_X11_hours σ x1 = some q) : Ms yX11_hours M_X11_hours 218 218 [(2, (181 : Int)), (0, x1)] rho σ (some (0, q.1), rho, q.2) := by
  refine Ms.of 0 (by decide +kernel) rfl (fun z => absurd z (by decide)) (fun _ _ _ => trivial) rfl rfl ?_
  unfold f_X11_hours at h
  show Ev M_X11_hours 218 218 _ 0 218 rho σ [(2, (181 : Int)), (0, x1)] []
  refine ev_iload_n dX11_hours_0 rfl ?_
  refine ev_i2lk dX11_hours_1 ?_
  refine ev_ldc2 (x := (8 : Int)) dX11_hours_2 wc_X11_201 (by decide) (by decide) ?_
  refine ev_ldc2 (x := (40 : Int)) dX11_hours_5 wc_X11_149 (by decide) (by decide) ?_
  obtain ⟨v1, hc2, h⟩ := bind_of h
  refine ev_invS_v (av := [(1, x1), (1, (8 : Int)), (1, (40 : Int))]) (st := []) (v := (0, v1)) (τ := σ) dX11_hours_8 ml_X11_120 mt_X11_isIn rfl ⟨Nat.le_of_ble_eq_true rfl, Nat.le_of_ble_eq_true rfl⟩ (Nat.le_of_ble_eq_true rfl) (c_X11_isIn hc2) ?_
  refine ev_if_eq (tgt := 24) dX11_hours_11 rfl h (fun cb h => ?_) (fun cb h => ?_)
  · refine ev_aload_n dX11_hours_24 rfl (by decide) ?_
    refine ev_bipush dX11_hours_25 (by decide) (by decide) ?_
    obtain ⟨v3, hc4, h⟩ := bind_of h
    refine ev_invV_v (k := (181 : Int)) (av := [(0, (-52 : Int))]) (st := []) (v := (0, v3.1)) (τ := v3.2) dX11_hours_27 ml_X11_151 mv_X11_no (T := TX11) (ci := 10) rfl sp181 (by decide) (by decide) rfl ⟨Nat.le_of_ble_eq_true rfl, Nat.le_of_ble_eq_true rfl⟩ (Nat.le_of_ble_eq_true rfl) (c_X11_no hc4) ?_
    obtain rfl := Option.some.inj h
    dsimp only
    exact ev_iret dX11_hours_30 rfl rfl
  refine ev_aload_n dX11_hours_14 rfl (by decide) ?_
  refine ev_bipush dX11_hours_15 (by decide) (by decide) ?_
  refine ev_iload_n dX11_hours_17 rfl ?_
  obtain ⟨v5, hc6, h⟩ := bind_of h
  refine ev_invV_v (k := (181 : Int)) (av := [(0, (85 : Int)), (0, x1)]) (st := []) (v := (0, v5.1)) (τ := v5.2) dX11_hours_18 ml_X11_177 mv_X11_becomes (T := TX11) (ci := 10) rfl sp181 (by decide) (by decide) rfl ⟨Nat.le_of_ble_eq_true rfl, Nat.le_of_ble_eq_true rfl⟩ (Nat.le_of_ble_eq_true rfl) (c_X11_becomes hc6) ?_
  refine ev_goto (tgt := 30) dX11_hours_21 rfl ?_
  obtain rfl := Option.some.inj h
  dsimp only
  exact ev_iret dX11_hours_30 rfl rfl
set_option maxHeartbeats 4000000 in
set_option maxRecDepth 20000 in
theorem c_X11_turn {σ : Mem} {x1 : Int}  {q : (Int × Mem)} (h : f_X11_turn σ x1 = some q) : Ms yX11_turn M_X11_turn 218 218 [(2, (181 : Int)), (0, x1)] rho σ (some (0, q.1), rho, q.2) := by
  refine Ms.of 0 (by decide +kernel) rfl (fun z => absurd z (by decide)) (fun _ _ _ => trivial) rfl rfl ?_
  unfold f_X11_turn at h
  show Ev M_X11_turn 218 218 _ 0 218 rho σ [(2, (181 : Int)), (0, x1)] []
  refine ev_iload_n dX11_turn_0 rfl ?_
  refine ev_i2lk dX11_turn_1 ?_
  refine ev_lconst (x := (0 : Int)) dX11_turn_2 (by decide) (by decide) ?_
  refine ev_ldc2 (x := (8 : Int)) dX11_turn_3 wc_X11_201 (by decide) (by decide) ?_
  obtain ⟨v1, hc2, h⟩ := bind_of h
  refine ev_invS_v (av := [(1, x1), (1, (0 : Int)), (1, (8 : Int))]) (st := []) (v := (0, v1)) (τ := σ) dX11_turn_6 ml_X11_120 mt_X11_isIn rfl ⟨Nat.le_of_ble_eq_true rfl, Nat.le_of_ble_eq_true rfl⟩ (Nat.le_of_ble_eq_true rfl) (c_X11_isIn hc2) ?_
  refine ev_if_eq (tgt := 22) dX11_turn_9 rfl h (fun cb h => ?_) (fun cb h => ?_)
  · refine ev_aload_n dX11_turn_22 rfl (by decide) ?_
    refine ev_bipush dX11_turn_23 (by decide) (by decide) ?_
    obtain ⟨v3, hc4, h⟩ := bind_of h
    refine ev_invV_v (k := (181 : Int)) (av := [(0, (-52 : Int))]) (st := []) (v := (0, v3.1)) (τ := v3.2) dX11_turn_25 ml_X11_151 mv_X11_no (T := TX11) (ci := 10) rfl sp181 (by decide) (by decide) rfl ⟨Nat.le_of_ble_eq_true rfl, Nat.le_of_ble_eq_true rfl⟩ (Nat.le_of_ble_eq_true rfl) (c_X11_no hc4) ?_
    obtain rfl := Option.some.inj h
    dsimp only
    exact ev_iret dX11_turn_28 rfl rfl
  refine ev_aload_n dX11_turn_12 rfl (by decide) ?_
  refine ev_bipush dX11_turn_13 (by decide) (by decide) ?_
  refine ev_iload_n dX11_turn_15 rfl ?_
  obtain ⟨v5, hc6, h⟩ := bind_of h
  refine ev_invV_v (k := (181 : Int)) (av := [(0, (86 : Int)), (0, x1)]) (st := []) (v := (0, v5.1)) (τ := v5.2) dX11_turn_16 ml_X11_177 mv_X11_becomes (T := TX11) (ci := 10) rfl sp181 (by decide) (by decide) rfl ⟨Nat.le_of_ble_eq_true rfl, Nat.le_of_ble_eq_true rfl⟩ (Nat.le_of_ble_eq_true rfl) (c_X11_becomes hc6) ?_
  refine ev_goto (tgt := 28) dX11_turn_19 rfl ?_
  obtain rfl := Option.some.inj h
  dsimp only
  exact ev_iret dX11_turn_28 rfl rfl
set_option maxHeartbeats 4000000 in
set_option maxRecDepth 20000 in
theorem c_X11_feed {σ : Mem} {x1 : Int}  {q : (Int × Mem)} (h : f_X11_feed σ x1 = some q) : Ms yX11_feed M_X11_feed 218 218 [(2, (181 : Int)), (0, x1)] rho σ (some (0, q.1), rho, q.2) := by
  refine Ms.of 0 (by decide +kernel) rfl (fun z => absurd z (by decide)) (fun _ _ _ => trivial) rfl rfl ?_
  unfold f_X11_feed at h
  show Ev M_X11_feed 218 218 _ 0 218 rho σ [(2, (181 : Int)), (0, x1)] []
  refine ev_iload_n dX11_feed_0 rfl ?_
  refine ev_i2lk dX11_feed_1 ?_
  refine ev_lconst (x := (0 : Int)) dX11_feed_2 (by decide) (by decide) ?_
  refine ev_ldc2 (x := (255 : Int)) dX11_feed_3 wc_X11_203 (by decide) (by decide) ?_
  obtain ⟨v1, hc2, h⟩ := bind_of h
  refine ev_invS_v (av := [(1, x1), (1, (0 : Int)), (1, (255 : Int))]) (st := []) (v := (0, v1)) (τ := σ) dX11_feed_6 ml_X11_120 mt_X11_isIn rfl ⟨Nat.le_of_ble_eq_true rfl, Nat.le_of_ble_eq_true rfl⟩ (Nat.le_of_ble_eq_true rfl) (c_X11_isIn hc2) ?_
  refine ev_if_ne (tgt := 19) dX11_feed_9 rfl h (fun cb h => ?_) (fun cb h => ?_)
  · refine ev_aload_n dX11_feed_19 rfl (by decide) ?_
    refine ev_getf (j := 9) (t := 0) (x := (σ (181 : Int) 9)) dX11_feed_20 cf_X11 wf_X11_205 sp181 (by decide) (by decide) rfl (by decide) rfl ?_
    refine ev_sipush dX11_feed_23 (by decide) (by decide) ?_
    refine ev_icmp_ne (tgt := 36) dX11_feed_26 rfl h (fun cb h => ?_) (fun cb h => ?_)
    · refine ev_aload_n dX11_feed_36 rfl (by decide) ?_
      refine ev_getf (j := 8) (t := 2) (x := (189 : Int)) dX11_feed_37 cf_X11 wf_X11_32 sp181 (by decide) (by decide) rfl (by decide) (rp181_8 _) ?_
      refine ev_aload_n dX11_feed_40 rfl (by decide) ?_
      refine ev_getf (j := 9) (t := 0) (x := (σ (181 : Int) 9)) dX11_feed_41 cf_X11 wf_X11_205 sp181 (by decide) (by decide) rfl (by decide) rfl ?_
      refine ev_iload_n dX11_feed_44 rfl ?_
      refine ev_iastG dX11_feed_45 sp189 (by decide) (by decide) h (fun σ3 h => ?_)
      refine ev_aload_n dX11_feed_46 rfl (by decide) ?_
      refine ev_dup dX11_feed_47 (show (2 : Nat) ≠ 1 by decide) ?_
      refine ev_getf (j := 9) (t := 0) (x := (σ3 (181 : Int) 9)) dX11_feed_48 cf_X11 wf_X11_205 sp181 (by decide) (by decide) rfl (by decide) rfl ?_
      refine ev_iconst dX11_feed_51 (by decide) ?_
      refine ev_iadd dX11_feed_52 ?_
      show Ev _ _ _ _ 53 _ _ _ _ _
      refine ev_putfG (j := 9) (t := 0) dX11_feed_53 cf_X11 wf_X11_205 sp181 (by decide) (by decide) rfl (by decide) (by decide) rfl (fun z => absurd z (by decide +kernel)) h (fun σ4 h => ?_)
      refine ev_aload_n dX11_feed_56 rfl (by decide) ?_
      refine ev_getf (j := 9) (t := 0) (x := (σ4 (181 : Int) 9)) dX11_feed_57 cf_X11 wf_X11_205 sp181 (by decide) (by decide) rfl (by decide) rfl ?_
      obtain rfl := Option.some.inj h
      dsimp only
      exact ev_iret dX11_feed_60 rfl rfl
    refine ev_aload_n dX11_feed_29 rfl (by decide) ?_
    refine ev_bipush dX11_feed_30 (by decide) (by decide) ?_
    obtain ⟨v5, hc6, h⟩ := bind_of h
    refine ev_invV_v (k := (181 : Int)) (av := [(0, (-56 : Int))]) (st := []) (v := (0, v5.1)) (τ := v5.2) dX11_feed_32 ml_X11_151 mv_X11_no (T := TX11) (ci := 10) rfl sp181 (by decide) (by decide) rfl ⟨Nat.le_of_ble_eq_true rfl, Nat.le_of_ble_eq_true rfl⟩ (Nat.le_of_ble_eq_true rfl) (c_X11_no hc6) ?_
    obtain rfl := Option.some.inj h
    dsimp only
    exact ev_iret dX11_feed_35 rfl rfl
  refine ev_aload_n dX11_feed_12 rfl (by decide) ?_
  refine ev_bipush dX11_feed_13 (by decide) (by decide) ?_
  obtain ⟨v7, hc8, h⟩ := bind_of h
  refine ev_invV_v (k := (181 : Int)) (av := [(0, (-52 : Int))]) (st := []) (v := (0, v7.1)) (τ := v7.2) dX11_feed_15 ml_X11_151 mv_X11_no (T := TX11) (ci := 10) rfl sp181 (by decide) (by decide) rfl ⟨Nat.le_of_ble_eq_true rfl, Nat.le_of_ble_eq_true rfl⟩ (Nat.le_of_ble_eq_true rfl) (c_X11_no hc8) ?_
  obtain rfl := Option.some.inj h
  dsimp only
  exact ev_iret dX11_feed_18 rfl rfl
set_option maxHeartbeats 4000000 in
set_option maxRecDepth 20000 in
theorem c_X11_wipe {σ : Mem}  {q : (Int × Mem)} (h : f_X11_wipe σ  = some q) : Ms yX11_wipe M_X11_wipe 218 218 [(2, (181 : Int))] rho σ (some (0, q.1), rho, q.2) := by
  refine Ms.of 1 (by decide +kernel) rfl (fun z => absurd z (by decide)) (fun _ _ _ => trivial) rfl rfl ?_
  unfold f_X11_wipe at h
  show Ev M_X11_wipe 218 218 _ 0 218 rho σ [(2, (181 : Int)), (9, 0)] []
  refine ev_aload_n dX11_wipe_0 rfl (by decide) ?_
  refine ev_getf (j := 9) (t := 0) (x := (σ (181 : Int) 9)) dX11_wipe_1 cf_X11 wf_X11_205 sp181 (by decide) (by decide) rfl (by decide) rfl ?_
  refine ev_istore_nG dX11_wipe_4 h rfl (by decide) (fun v1 h => ?_)
  show Ev _ _ _ _ 5 _ _ _ [(2, (181 : Int)), (0, v1)] _
  refine ev_aload_n dX11_wipe_5 rfl (by decide) ?_
  refine ev_iconst dX11_wipe_6 (by decide) ?_
  refine ev_putfG (j := 9) (t := 0) dX11_wipe_7 cf_X11 wf_X11_205 sp181 (by decide) (by decide) rfl (by decide) (by decide) rfl (fun z => absurd z (by decide +kernel)) h (fun σ2 h => ?_)
  refine ev_iload_n dX11_wipe_10 rfl ?_
  obtain rfl := Option.some.inj h
  dsimp only
  exact ev_iret dX11_wipe_11 rfl rfl
set_option maxHeartbeats 4000000 in
set_option maxRecDepth 20000 in
theorem c_X11_isLetter {σ : Mem} {x1 : Int}  {q : Int} (h : f_X11_isLetter σ x1 = some q) : Ms yX11_isLetter M_X11_isLetter 218 218 [(2, (181 : Int)), (0, x1)] rho σ (some (0, q), rho, σ) := by
  refine Ms.of 0 (by decide +kernel) rfl (fun z => absurd z (by decide)) (fun _ _ _ => trivial) rfl rfl ?_
  unfold f_X11_isLetter at h
  show Ev M_X11_isLetter 218 218 _ 0 218 rho σ [(2, (181 : Int)), (0, x1)] []
  refine ev_iload_n dX11_isLetter_0 rfl ?_
  refine ev_aload_n dX11_isLetter_1 rfl (by decide) ?_
  refine ev_getf (j := 9) (t := 0) (x := (σ (181 : Int) 9)) dX11_isLetter_2 cf_X11 wf_X11_205 sp181 (by decide) (by decide) rfl (by decide) rfl ?_
  refine ev_icmp_ge (tgt := 34) dX11_isLetter_5 rfl h (fun cb h => ?_) (fun cb h => ?_)
  · refine ev_iconst dX11_isLetter_34 (by decide) ?_
    obtain rfl := Option.some.inj h
    exact ev_zret dX11_isLetter_35 rfl (chk_pos (.inl rfl))
  refine ev_aload_n dX11_isLetter_8 rfl (by decide) ?_
  refine ev_getf (j := 8) (t := 2) (x := (189 : Int)) dX11_isLetter_9 cf_X11 wf_X11_32 sp181 (by decide) (by decide) rfl (by decide) (rp181_8 _) ?_
  refine ev_iload_n dX11_isLetter_12 rfl ?_
  refine ev_iald dX11_isLetter_13 sp189 (by decide) (by decide) h (fun h => ?_)
  refine ev_bipush dX11_isLetter_14 (by decide) (by decide) ?_
  refine ev_icmp_lt (tgt := 34) dX11_isLetter_16 rfl h (fun cb h => ?_) (fun cb h => ?_)
  · refine ev_iconst dX11_isLetter_34 (by decide) ?_
    obtain rfl := Option.some.inj h
    exact ev_zret dX11_isLetter_35 rfl (chk_pos (.inl rfl))
  refine ev_aload_n dX11_isLetter_19 rfl (by decide) ?_
  refine ev_getf (j := 8) (t := 2) (x := (189 : Int)) dX11_isLetter_20 cf_X11 wf_X11_32 sp181 (by decide) (by decide) rfl (by decide) (rp181_8 _) ?_
  refine ev_iload_n dX11_isLetter_23 rfl ?_
  refine ev_iald dX11_isLetter_24 sp189 (by decide) (by decide) h (fun h => ?_)
  refine ev_bipush dX11_isLetter_25 (by decide) (by decide) ?_
  refine ev_icmp_gt (tgt := 34) dX11_isLetter_27 rfl h (fun cb h => ?_) (fun cb h => ?_)
  · refine ev_iconst dX11_isLetter_34 (by decide) ?_
    obtain rfl := Option.some.inj h
    exact ev_zret dX11_isLetter_35 rfl (chk_pos (.inl rfl))
  refine ev_iconst dX11_isLetter_30 (by decide) ?_
  refine ev_goto (tgt := 35) dX11_isLetter_31 rfl ?_
  obtain rfl := Option.some.inj h
  exact ev_zret dX11_isLetter_35 rfl (chk_pos (.inr rfl))
set_option maxHeartbeats 4000000 in
set_option maxRecDepth 20000 in
theorem c_X11_isFigure {σ : Mem} {x1 : Int}  {q : Int} (h : f_X11_isFigure σ x1 = some q) : Ms yX11_isFigure M_X11_isFigure 218 218 [(2, (181 : Int)), (0, x1)] rho σ (some (0, q), rho, σ) := by
  refine Ms.of 0 (by decide +kernel) rfl (fun z => absurd z (by decide)) (fun _ _ _ => trivial) rfl rfl ?_
  unfold f_X11_isFigure at h
  show Ev M_X11_isFigure 218 218 _ 0 218 rho σ [(2, (181 : Int)), (0, x1)] []
  refine ev_iload_n dX11_isFigure_0 rfl ?_
  refine ev_aload_n dX11_isFigure_1 rfl (by decide) ?_
  refine ev_getf (j := 9) (t := 0) (x := (σ (181 : Int) 9)) dX11_isFigure_2 cf_X11 wf_X11_205 sp181 (by decide) (by decide) rfl (by decide) rfl ?_
  refine ev_icmp_ge (tgt := 34) dX11_isFigure_5 rfl h (fun cb h => ?_) (fun cb h => ?_)
  · refine ev_iconst dX11_isFigure_34 (by decide) ?_
    obtain rfl := Option.some.inj h
    exact ev_zret dX11_isFigure_35 rfl (chk_pos (.inl rfl))
  refine ev_aload_n dX11_isFigure_8 rfl (by decide) ?_
  refine ev_getf (j := 8) (t := 2) (x := (189 : Int)) dX11_isFigure_9 cf_X11 wf_X11_32 sp181 (by decide) (by decide) rfl (by decide) (rp181_8 _) ?_
  refine ev_iload_n dX11_isFigure_12 rfl ?_
  refine ev_iald dX11_isFigure_13 sp189 (by decide) (by decide) h (fun h => ?_)
  refine ev_bipush dX11_isFigure_14 (by decide) (by decide) ?_
  refine ev_icmp_lt (tgt := 34) dX11_isFigure_16 rfl h (fun cb h => ?_) (fun cb h => ?_)
  · refine ev_iconst dX11_isFigure_34 (by decide) ?_
    obtain rfl := Option.some.inj h
    exact ev_zret dX11_isFigure_35 rfl (chk_pos (.inl rfl))
  refine ev_aload_n dX11_isFigure_19 rfl (by decide) ?_
  refine ev_getf (j := 8) (t := 2) (x := (189 : Int)) dX11_isFigure_20 cf_X11 wf_X11_32 sp181 (by decide) (by decide) rfl (by decide) (rp181_8 _) ?_
  refine ev_iload_n dX11_isFigure_23 rfl ?_
  refine ev_iald dX11_isFigure_24 sp189 (by decide) (by decide) h (fun h => ?_)
  refine ev_bipush dX11_isFigure_25 (by decide) (by decide) ?_
  refine ev_icmp_gt (tgt := 34) dX11_isFigure_27 rfl h (fun cb h => ?_) (fun cb h => ?_)
  · refine ev_iconst dX11_isFigure_34 (by decide) ?_
    obtain rfl := Option.some.inj h
    exact ev_zret dX11_isFigure_35 rfl (chk_pos (.inl rfl))
  refine ev_iconst dX11_isFigure_30 (by decide) ?_
  refine ev_goto (tgt := 35) dX11_isFigure_31 rfl ?_
  obtain rfl := Option.some.inj h
  exact ev_zret dX11_isFigure_35 rfl (chk_pos (.inr rfl))
def K_X11_blanks_0 (r : Option V × Mem × Mem) : (Mem) ⊕ ((Mem)) → Prop := Sum.elim (fun a => Ev M_X11_blanks 218 218 r 0 218 rho a [(2, (181 : Int))] []) (fun e => Ev M_X11_blanks 218 218 r 38 218 rho e [(2, (181 : Int))] [])
set_option maxHeartbeats 4000000 in
set_option maxRecDepth 20000 in
theorem e_X11_blanks_38 (σ : Mem)  {q : Mem} (h : f_X11_blanks_38 σ  = some q) : Ev M_X11_blanks 218 218 (none, rho, q) 38 218 rho σ [(2, (181 : Int))] [] := by
  unfold f_X11_blanks_38 at h
  refine ev_aload_n dX11_blanks_38 rfl (by decide) ?_
  refine ev_aload_n dX11_blanks_39 rfl (by decide) ?_
  refine ev_getf (j := 10) (t := 0) (x := (σ (181 : Int) 10)) dX11_blanks_40 cf_X11 wf_X11_209 sp181 (by decide) (by decide) rfl (by decide) rfl ?_
  refine ev_putfG (j := 11) (t := 0) dX11_blanks_43 cf_X11 wf_X11_212 sp181 (by decide) (by decide) rfl (by decide) (by decide) rfl (fun z => absurd z (by decide +kernel)) h (fun σ2 h => ?_)
  obtain rfl := Option.some.inj h
  exact ev_vret dX11_blanks_46 rfl rfl
set_option maxHeartbeats 4000000 in
set_option maxRecDepth 20000 in
theorem b_X11_blanks_0  {r : Option V × Mem × Mem} : ∀ a x, f_X11_blanks_0B  a = some x → K_X11_blanks_0  r x → K_X11_blanks_0  r (.inl a) := by
  intro a x h K
  have ⟨σ, ea⟩ : ∃ z, z = a := ⟨_, rfl⟩
  subst ea
  have h : f_X11_blanks_0C  σ = some x := h
  unfold f_X11_blanks_0C at h
  show Ev M_X11_blanks 218 218 r 0 218 rho σ [(2, (181 : Int))] []
  refine ev_aload_n dX11_blanks_0 rfl (by decide) ?_
  refine ev_getf (j := 10) (t := 0) (x := (σ (181 : Int) 10)) dX11_blanks_1 cf_X11 wf_X11_209 sp181 (by decide) (by decide) rfl (by decide) rfl ?_
  refine ev_aload_n dX11_blanks_4 rfl (by decide) ?_
  refine ev_getf (j := 9) (t := 0) (x := (σ (181 : Int) 9)) dX11_blanks_5 cf_X11 wf_X11_205 sp181 (by decide) (by decide) rfl (by decide) rfl ?_
  refine ev_icmp_ge (tgt := 38) dX11_blanks_8 rfl h (fun cb h => ?_) (fun cb h => ?_)
  · obtain rfl := Option.some.inj h
    exact ev_sub (L2 := [(2, (181 : Int))]) K ⟨.inr rfl, trivial⟩
  refine ev_aload_n dX11_blanks_11 rfl (by decide) ?_
  refine ev_getf (j := 8) (t := 2) (x := (189 : Int)) dX11_blanks_12 cf_X11 wf_X11_32 sp181 (by decide) (by decide) rfl (by decide) (rp181_8 _) ?_
  refine ev_aload_n dX11_blanks_15 rfl (by decide) ?_
  refine ev_getf (j := 10) (t := 0) (x := (σ (181 : Int) 10)) dX11_blanks_16 cf_X11 wf_X11_209 sp181 (by decide) (by decide) rfl (by decide) rfl ?_
  refine ev_iald dX11_blanks_19 sp189 (by decide) (by decide) h (fun h => ?_)
  refine ev_bipush dX11_blanks_20 (by decide) (by decide) ?_
  refine ev_icmp_ne (tgt := 38) dX11_blanks_22 rfl h (fun cb h => ?_) (fun cb h => ?_)
  · obtain rfl := Option.some.inj h
    exact ev_sub (L2 := [(2, (181 : Int))]) K ⟨.inr rfl, trivial⟩
  refine ev_aload_n dX11_blanks_25 rfl (by decide) ?_
  refine ev_dup dX11_blanks_26 (show (2 : Nat) ≠ 1 by decide) ?_
  refine ev_getf (j := 10) (t := 0) (x := (σ (181 : Int) 10)) dX11_blanks_27 cf_X11 wf_X11_209 sp181 (by decide) (by decide) rfl (by decide) rfl ?_
  refine ev_iconst dX11_blanks_30 (by decide) ?_
  refine ev_iadd dX11_blanks_31 ?_
  refine ev_putfG (j := 10) (t := 0) dX11_blanks_32 cf_X11 wf_X11_209 sp181 (by decide) (by decide) rfl (by decide) (by decide) rfl (fun z => absurd z (by decide +kernel)) h (fun σ1 h => ?_)
  refine ev_goto (tgt := 0) dX11_blanks_35 rfl ?_
  obtain rfl := Option.some.inj h
  exact ev_sub (L2 := [(2, (181 : Int))]) K ⟨.inr rfl, trivial⟩
set_option maxHeartbeats 4000000 in
set_option maxRecDepth 20000 in
theorem e_X11_blanks_0 (σ : Mem)  {q : Mem} (h : f_X11_blanks_0 σ  = some q) : Ev M_X11_blanks 218 218 (none, rho, q) 0 218 rho σ [(2, (181 : Int))] [] := by
  unfold f_X11_blanks_0 at h
  obtain ⟨e, hl, h⟩ := bind_of h
  refine loop_ev (K := K_X11_blanks_0  (none, rho, q)) (b_X11_blanks_0 ) FU σ e hl ?_
  show Ev M_X11_blanks 218 218 _ 38 218 rho e [(2, (181 : Int))] []
  replace h : f_X11_blanks_38 e = some q := h
  exact ev_sub (L2 := [(2, (181 : Int))]) (e_X11_blanks_38 e h) ⟨.inr rfl, trivial⟩
set_option maxHeartbeats 4000000 in
set_option maxRecDepth 20000 in
theorem c_X11_blanks {σ : Mem}  {q : Mem} (h : f_X11_blanks σ  = some q) : Ms yX11_blanks M_X11_blanks 218 218 [(2, (181 : Int))] rho σ (none, rho, q) := by
  refine Ms.of 0 (by decide +kernel) rfl (fun z => absurd z (by decide)) (fun _ _ _ => trivial) rfl rfl ?_
  unfold f_X11_blanks at h
  show Ev M_X11_blanks 218 218 _ 0 218 rho σ [(2, (181 : Int))] []
  exact ev_sub (L2 := [(2, (181 : Int))]) (e_X11_blanks_0 σ h) ⟨.inr rfl, trivial⟩
set_option maxHeartbeats 4000000 in
set_option maxRecDepth 20000 in
theorem e_X11_wrong_19 (σ : Mem) (s1 : Int)  {q : Mem} (h : f_X11_wrong_19 σ s1 = some q) : Ev M_X11_wrong 218 218 (none, rho, q) 19 218 rho σ [(9, 0)] [(0, s1), (2, (181 : Int))] := by
  unfold f_X11_wrong_19 at h
  refine ev_putfG (j := 13) (t := 0) dX11_wrong_19 cf_X11 wf_X11_215 sp181 (by decide) (by decide) rfl (by decide) (by decide) rfl (fun z => absurd z (by decide +kernel)) h (fun σ1 h => ?_)
  obtain rfl := Option.some.inj h
  exact ev_vret dX11_wrong_22 rfl rfl
set_option maxHeartbeats 4000000 in
set_option maxRecDepth 20000 in
theorem c_X11_wrong {σ : Mem}  {q : Mem} (h : f_X11_wrong σ  = some q) : Ms yX11_wrong M_X11_wrong 218 218 [(2, (181 : Int))] rho σ (none, rho, q) := by
  refine Ms.of 0 (by decide +kernel) rfl (fun z => absurd z (by decide)) (fun _ _ _ => trivial) rfl rfl ?_
  unfold f_X11_wrong at h
  show Ev M_X11_wrong 218 218 _ 0 218 rho σ [(2, (181 : Int))] []
  refine ev_aload_n dX11_wrong_0 rfl (by decide) ?_
  refine ev_aload_n dX11_wrong_1 rfl (by decide) ?_
  refine ev_getf (j := 13) (t := 0) (x := (σ (181 : Int) 13)) dX11_wrong_2 cf_X11 wf_X11_215 sp181 (by decide) (by decide) rfl (by decide) rfl ?_
  refine ev_if_ge (tgt := 15) dX11_wrong_5 rfl h (fun cb h => ?_) (fun cb h => ?_)
  · refine ev_aload_n dX11_wrong_15 rfl (by decide) ?_
    refine ev_getf (j := 13) (t := 0) (x := (σ (181 : Int) 13)) dX11_wrong_16 cf_X11 wf_X11_215 sp181 (by decide) (by decide) rfl (by decide) rfl ?_
    exact ev_sub (L2 := [(9, 0)]) (e_X11_wrong_19 σ (σ (181 : Int) 13) h) ⟨.inl rfl, trivial⟩
  refine ev_aload_n dX11_wrong_8 rfl (by decide) ?_
  refine ev_getf (j := 11) (t := 0) (x := (σ (181 : Int) 11)) dX11_wrong_9 cf_X11 wf_X11_212 sp181 (by decide) (by decide) rfl (by decide) rfl ?_
  refine ev_goto (tgt := 19) dX11_wrong_12 rfl ?_
  exact ev_sub (L2 := [(9, 0)]) (e_X11_wrong_19 σ (σ (181 : Int) 11) h) ⟨.inl rfl, trivial⟩
def K_X11_word_61 (σ : Mem) (x1 x2 x3 : Int) (r : Option V × Mem × Mem) : (Int × Int) ⊕ ((Int)) → Prop := Sum.elim (fun a => Ev M_X11_word 218 218 r 61 218 rho σ [(2, (181 : Int)), (0, x1), (0, x2), (0, x3), (0, a.1), (0, a.2), (9, 0)] []) (fun e => Ev M_X11_word 218 218 r 141 218 rho σ [(2, (181 : Int)), (0, x1), (0, x2), (0, x3), (0, e), (9, 0), (9, 0)] [])
def K_X11_word_27 (σ : Mem) (x1 : Int) (r : Option V × Mem × Mem) : (Int × Int) ⊕ ((Int)) → Prop := Sum.elim (fun a => Ev M_X11_word 218 218 r 27 218 rho σ [(2, (181 : Int)), (0, x1), (0, a.1), (0, a.2), (9, 0), (9, 0), (9, 0)] []) (fun e => Ev M_X11_word 218 218 r 158 218 rho σ [(2, (181 : Int)), (0, x1), (0, e), (9, 0), (9, 0), (9, 0), (9, 0)] [])
def K_X11_word_9 (σ : Mem) (r : Option V × Mem × Mem) : (Int) ⊕ ((Int)) → Prop := Sum.elim (fun a => Ev M_X11_word 218 218 r 9 218 rho σ [(2, (181 : Int)), (0, a), (9, 0), (9, 0), (9, 0), (9, 0), (9, 0)] []) (fun e => Ev M_X11_word 218 218 r 23 218 rho σ [(2, (181 : Int)), (0, e), (9, 0), (9, 0), (9, 0), (9, 0), (9, 0)] [])
set_option maxHeartbeats 4000000 in
set_option maxRecDepth 20000 in
theorem e_X11_word_133 (σ : Mem) (x1 x2 x3 x5 s0 : Int)  {q : ((Int × Int) ⊕ ((Int)))} (h : f_X11_word_133 σ x1 x2 x3 x5 s0 = some q) {r : Option V × Mem × Mem} (K : K_X11_word_61 σ x1 x2 x3 r q) : Ev M_X11_word 218 218 r 133 218 rho σ [(2, (181 : Int)), (0, x1), (0, x2), (0, x3), (9, 0), (0, x5), (9, 0)] [(0, s0)] := by
  unfold f_X11_word_133 at h
  refine ev_istore dX11_word_133 rfl (by decide) ?_
  show Ev _ _ _ _ 135 _ _ _ [(2, (181 : Int)), (0, x1), (0, x2), (0, x3), (0, s0), (0, x5), (9, 0)] _
  refine ev_iincG dX11_word_135 rfl h rfl (fun v9 h => ?_)
  show Ev _ _ _ _ 138 _ _ _ [(2, (181 : Int)), (0, x1), (0, x2), (0, x3), (0, s0), (0, v9), (9, 0)] _
  refine ev_goto (tgt := 61) dX11_word_138 rfl ?_
  obtain rfl := Option.some.inj h
  exact ev_sub (L2 := [(2, (181 : Int)), (0, x1), (0, x2), (0, x3), (0, s0), (0, v9), (9, 0)]) K ⟨.inr rfl, .inr rfl, .inr rfl, .inr rfl, .inr rfl, .inr rfl, .inl rfl, trivial⟩
set_option maxHeartbeats 4000000 in
set_option maxRecDepth 20000 in
theorem e_X11_word_151 (σ : Mem) (x1 x3 s0 : Int)  {q : ((Int × Int) ⊕ ((Int)))} (h : f_X11_word_151 σ x1 x3 s0 = some q) {r : Option V × Mem × Mem} (K : K_X11_word_27 σ x1 r q) : Ev M_X11_word 218 218 r 151 218 rho σ [(2, (181 : Int)), (0, x1), (9, 0), (0, x3), (9, 0), (9, 0), (9, 0)] [(0, s0)] := by
  unfold f_X11_word_151 at h
  refine ev_istore_n dX11_word_151 rfl (by decide) ?_
  show Ev _ _ _ _ 152 _ _ _ [(2, (181 : Int)), (0, x1), (0, s0), (0, x3), (9, 0), (9, 0), (9, 0)] _
  refine ev_iincG dX11_word_152 rfl h rfl (fun v10 h => ?_)
  show Ev _ _ _ _ 155 _ _ _ [(2, (181 : Int)), (0, x1), (0, s0), (0, v10), (9, 0), (9, 0), (9, 0)] _
  refine ev_goto (tgt := 27) dX11_word_155 rfl ?_
  obtain rfl := Option.some.inj h
  exact ev_sub (L2 := [(2, (181 : Int)), (0, x1), (0, s0), (0, v10), (9, 0), (9, 0), (9, 0)]) K ⟨.inr rfl, .inr rfl, .inr rfl, .inr rfl, .inl rfl, .inl rfl, .inl rfl, trivial⟩
set_option maxHeartbeats 4000000 in
set_option maxRecDepth 20000 in
theorem e_X11_word_141 (σ : Mem) (x1 x2 x3 x4 : Int)  {q : ((Int × Int) ⊕ ((Int)))} (h : f_X11_word_141 σ x1 x2 x3 x4 = some q) {r : Option V × Mem × Mem} (K : K_X11_word_27 σ x1 r q) : Ev M_X11_word 218 218 r 141 218 rho σ [(2, (181 : Int)), (0, x1), (0, x2), (0, x3), (0, x4), (9, 0), (9, 0)] [] := by
  unfold f_X11_word_141 at h
  refine ev_iload dX11_word_141 rfl ?_
  refine ev_if_eq (tgt := 150) dX11_word_143 rfl h (fun cb h => ?_) (fun cb h => ?_)
  · refine ev_iload_n dX11_word_150 rfl ?_
    exact ev_sub (L2 := [(2, (181 : Int)), (0, x1), (9, 0), (0, x3), (9, 0), (9, 0), (9, 0)]) (e_X11_word_151 σ x1 x3 x2 h K) ⟨.inr rfl, .inr rfl, .inl rfl, .inr rfl, .inl rfl, .inl rfl, .inl rfl, trivial⟩
  refine ev_iload_n dX11_word_146 rfl ?_
  refine ev_goto (tgt := 151) dX11_word_147 rfl ?_
  exact ev_sub (L2 := [(2, (181 : Int)), (0, x1), (9, 0), (0, x3), (9, 0), (9, 0), (9, 0)]) (e_X11_word_151 σ x1 x3 x3 h K) ⟨.inr rfl, .inr rfl, .inl rfl, .inr rfl, .inl rfl, .inl rfl, .inl rfl, trivial⟩
set_option maxHeartbeats 4000000 in
set_option maxRecDepth 20000 in
theorem b_X11_word_61 (σ : Mem) (x1 x2 x3 : Int)  {r : Option V × Mem × Mem} : ∀ a x, f_X11_word_61B σ x1 x2 x3 a = some x → K_X11_word_61 σ x1 x2 x3 r x → K_X11_word_61 σ x1 x2 x3 r (.inl a) := by
  intro a x h K
  obtain ⟨x4, x5⟩ := a
  have h : f_X11_word_61C σ x1 x2 x3 x4 x5 = some x := h
  unfold f_X11_word_61C at h
  show Ev M_X11_word 218 218 r 61 218 rho σ [(2, (181 : Int)), (0, x1), (0, x2), (0, x3), (0, x4), (0, x5), (9, 0)] []
  refine ev_iload dX11_word_61 rfl ?_
  refine ev_iconst dX11_word_63 (by decide) ?_
  refine ev_icmp_ge (tgt := 141) dX11_word_64 rfl h (fun cb h => ?_) (fun cb h => ?_)
  · obtain rfl := Option.some.inj h
    exact ev_sub (L2 := [(2, (181 : Int)), (0, x1), (0, x2), (0, x3), (0, x4), (9, 0), (9, 0)]) K ⟨.inr rfl, .inr rfl, .inr rfl, .inr rfl, .inr rfl, .inl rfl, .inl rfl, trivial⟩
  refine ev_iload dX11_word_67 rfl ?_
  refine ev_if_eq (tgt := 141) dX11_word_69 rfl h (fun cb h => ?_) (fun cb h => ?_)
  · obtain rfl := Option.some.inj h
    exact ev_sub (L2 := [(2, (181 : Int)), (0, x1), (0, x2), (0, x3), (0, x4), (9, 0), (9, 0)]) K ⟨.inr rfl, .inr rfl, .inr rfl, .inr rfl, .inr rfl, .inl rfl, .inl rfl, trivial⟩
  refine ev_aload_n dX11_word_72 rfl (by decide) ?_
  refine ev_getf (j := 14) (t := 2) (x := (190 : Int)) dX11_word_73 cf_X11 wf_X11_35 sp181 (by decide) (by decide) rfl (by decide) (rp181_14 _) ?_
  refine ev_iconst dX11_word_76 (by decide) ?_
  refine ev_iload_n dX11_word_77 rfl ?_
  refine ev_imul dX11_word_78 ?_
  refine ev_iload dX11_word_79 rfl ?_
  refine ev_iadd dX11_word_81 ?_
  refine ev_cald dX11_word_82 sp190 (by decide) (by decide) h (fun h => ?_)
  refine ev_istoreG dX11_word_83 h rfl (by decide) (fun v8 h => ?_)
  show Ev _ _ _ _ 85 _ _ _ [(2, (181 : Int)), (0, x1), (0, x2), (0, x3), (0, x4), (0, x5), (0, v8)] _
  refine ev_aload_n dX11_word_85 rfl (by decide) ?_
  refine ev_getf (j := 10) (t := 0) (x := (σ (181 : Int) 10)) dX11_word_86 cf_X11 wf_X11_209 sp181 (by decide) (by decide) rfl (by decide) rfl ?_
  show Ev _ _ _ _ 89 _ _ _ _ _
  refine ev_iload dX11_word_89 rfl ?_
  refine ev_iadd dX11_word_91 ?_
  refine ev_iload_n dX11_word_92 rfl ?_
  refine ev_icmp_ge (tgt := 121) dX11_word_93 rfl h (fun cb h => ?_) (fun cb h => ?_)
  · refine ev_iload dX11_word_121 rfl ?_
    refine ev_bipush dX11_word_123 (by decide) (by decide) ?_
    refine ev_icmp_ne (tgt := 132) dX11_word_125 rfl h (fun cb h => ?_) (fun cb h => ?_)
    · refine ev_iconst dX11_word_132 (by decide) ?_
      exact ev_sub (L2 := [(2, (181 : Int)), (0, x1), (0, x2), (0, x3), (9, 0), (0, x5), (9, 0)]) (e_X11_word_133 σ x1 x2 x3 x5 (0 : Int) h K) ⟨.inr rfl, .inr rfl, .inr rfl, .inr rfl, .inl rfl, .inr rfl, .inl rfl, trivial⟩
    refine ev_iconst dX11_word_128 (by decide) ?_
    refine ev_goto (tgt := 133) dX11_word_129 rfl ?_
    exact ev_sub (L2 := [(2, (181 : Int)), (0, x1), (0, x2), (0, x3), (9, 0), (0, x5), (9, 0)]) (e_X11_word_133 σ x1 x2 x3 x5 (1 : Int) h K) ⟨.inr rfl, .inr rfl, .inr rfl, .inr rfl, .inl rfl, .inr rfl, .inl rfl, trivial⟩
  refine ev_aload_n dX11_word_96 rfl (by decide) ?_
  refine ev_getf (j := 8) (t := 2) (x := (189 : Int)) dX11_word_97 cf_X11 wf_X11_32 sp181 (by decide) (by decide) rfl (by decide) (rp181_8 _) ?_
  refine ev_aload_n dX11_word_100 rfl (by decide) ?_
  refine ev_getf (j := 10) (t := 0) (x := (σ (181 : Int) 10)) dX11_word_101 cf_X11 wf_X11_209 sp181 (by decide) (by decide) rfl (by decide) rfl ?_
  refine ev_iload dX11_word_104 rfl ?_
  refine ev_iadd dX11_word_106 ?_
  refine ev_iald dX11_word_107 sp189 (by decide) (by decide) h (fun h => ?_)
  refine ev_iload dX11_word_108 rfl ?_
  refine ev_icmp_ne (tgt := 117) dX11_word_110 rfl h (fun cb h => ?_) (fun cb h => ?_)
  · refine ev_iconst dX11_word_117 (by decide) ?_
    refine ev_goto (tgt := 133) dX11_word_118 rfl ?_
    exact ev_sub (L2 := [(2, (181 : Int)), (0, x1), (0, x2), (0, x3), (9, 0), (0, x5), (9, 0)]) (e_X11_word_133 σ x1 x2 x3 x5 (0 : Int) h K) ⟨.inr rfl, .inr rfl, .inr rfl, .inr rfl, .inl rfl, .inr rfl, .inl rfl, trivial⟩
  refine ev_iconst dX11_word_113 (by decide) ?_
  refine ev_goto (tgt := 133) dX11_word_114 rfl ?_
  exact ev_sub (L2 := [(2, (181 : Int)), (0, x1), (0, x2), (0, x3), (9, 0), (0, x5), (9, 0)]) (e_X11_word_133 σ x1 x2 x3 x5 (1 : Int) h K) ⟨.inr rfl, .inr rfl, .inr rfl, .inr rfl, .inl rfl, .inr rfl, .inl rfl, trivial⟩
set_option maxHeartbeats 4000000 in
set_option maxRecDepth 20000 in
theorem e_X11_word_61 (σ : Mem) (x1 x2 x3 x4 x5 : Int)  {q : ((Int × Int) ⊕ ((Int)))} (h : f_X11_word_61 σ x1 x2 x3 x4 x5 = some q) {r : Option V × Mem × Mem} (K : K_X11_word_27 σ x1 r q) : Ev M_X11_word 218 218 r 61 218 rho σ [(2, (181 : Int)), (0, x1), (0, x2), (0, x3), (0, x4), (0, x5), (9, 0)] [] := by
  unfold f_X11_word_61 at h
  obtain ⟨e, hl, h⟩ := bind_of h
  refine loop_ev (K := K_X11_word_61 σ x1 x2 x3 r) (b_X11_word_61 σ x1 x2 x3) FU (x4, x5) e hl ?_
  show Ev M_X11_word 218 218 r 141 218 rho σ [(2, (181 : Int)), (0, x1), (0, x2), (0, x3), (0, e), (9, 0), (9, 0)] []
  replace h : f_X11_word_141 σ x1 x2 x3 e = some q := h
  exact ev_sub (L2 := [(2, (181 : Int)), (0, x1), (0, x2), (0, x3), (0, e), (9, 0), (9, 0)]) (e_X11_word_141 σ x1 x2 x3 e h K) ⟨.inr rfl, .inr rfl, .inr rfl, .inr rfl, .inr rfl, .inl rfl, .inl rfl, trivial⟩
set_option maxHeartbeats 4000000 in
set_option maxRecDepth 20000 in
theorem e_X11_word_56 (σ : Mem) (x1 x2 x3 s0 : Int)  {q : ((Int × Int) ⊕ ((Int)))} (h : f_X11_word_56 σ x1 x2 x3 s0 = some q) {r : Option V × Mem × Mem} (K : K_X11_word_27 σ x1 r q) : Ev M_X11_word 218 218 r 56 218 rho σ [(2, (181 : Int)), (0, x1), (0, x2), (0, x3), (9, 0), (9, 0), (9, 0)] [(0, s0)] := by
  unfold f_X11_word_56 at h
  refine ev_istore dX11_word_56 rfl (by decide) ?_
  show Ev _ _ _ _ 58 _ _ _ [(2, (181 : Int)), (0, x1), (0, x2), (0, x3), (0, s0), (9, 0), (9, 0)] _
  refine ev_iconst dX11_word_58 (by decide) ?_
  refine ev_istore dX11_word_59 rfl (by decide) ?_
  show Ev _ _ _ _ 61 _ _ _ [(2, (181 : Int)), (0, x1), (0, x2), (0, x3), (0, s0), (0, (0 : Int)), (9, 0)] _
  exact ev_sub (L2 := [(2, (181 : Int)), (0, x1), (0, x2), (0, x3), (0, s0), (0, (0 : Int)), (9, 0)]) (e_X11_word_61 σ x1 x2 x3 s0 (0 : Int) h K) ⟨.inr rfl, .inr rfl, .inr rfl, .inr rfl, .inr rfl, .inr rfl, .inl rfl, trivial⟩
set_option maxHeartbeats 4000000 in
set_option maxRecDepth 20000 in
theorem e_X11_word_55 (σ : Mem) (x1 x2 x3 : Int)  {q : ((Int × Int) ⊕ ((Int)))} (h : f_X11_word_55 σ x1 x2 x3 = some q) {r : Option V × Mem × Mem} (K : K_X11_word_27 σ x1 r q) : Ev M_X11_word 218 218 r 55 218 rho σ [(2, (181 : Int)), (0, x1), (0, x2), (0, x3), (9, 0), (9, 0), (9, 0)] [] := by
  unfold f_X11_word_55 at h
  refine ev_iconst dX11_word_55 (by decide) ?_
  exact ev_sub (L2 := [(2, (181 : Int)), (0, x1), (0, x2), (0, x3), (9, 0), (9, 0), (9, 0)]) (e_X11_word_56 σ x1 x2 x3 (0 : Int) h K) ⟨.inr rfl, .inr rfl, .inr rfl, .inr rfl, .inl rfl, .inl rfl, .inl rfl, trivial⟩
set_option maxHeartbeats 4000000 in
set_option maxRecDepth 20000 in
theorem e_X11_word_158 (σ : Mem) (x1 x2 : Int)  {q : (Int × Mem)} (h : f_X11_word_158 σ x1 x2 = some q) : Ev M_X11_word 218 218 (some (0, q.1), rho, q.2) 158 218 rho σ [(2, (181 : Int)), (0, x1), (0, x2), (9, 0), (9, 0), (9, 0), (9, 0)] [] := by
  unfold f_X11_word_158 at h
  refine ev_aload_n dX11_word_158 rfl (by decide) ?_
  refine ev_iload_n dX11_word_159 rfl ?_
  refine ev_putfG (j := 10) (t := 0) dX11_word_160 cf_X11 wf_X11_209 sp181 (by decide) (by decide) rfl (by decide) (by decide) rfl (fun z => absurd z (by decide +kernel)) h (fun σ7 h => ?_)
  refine ev_iload_n dX11_word_163 rfl ?_
  obtain rfl := Option.some.inj h
  dsimp only
  exact ev_iret dX11_word_164 rfl rfl
set_option maxHeartbeats 4000000 in
set_option maxRecDepth 20000 in
theorem b_X11_word_27 (σ : Mem) (x1 : Int)  {r : Option V × Mem × Mem} : ∀ a x, f_X11_word_27B σ x1 a = some x → K_X11_word_27 σ x1 r x → K_X11_word_27 σ x1 r (.inl a) := by
  intro a x h K
  obtain ⟨x2, x3⟩ := a
  have h : f_X11_word_27C σ x1 x2 x3 = some x := h
  unfold f_X11_word_27C at h
  show Ev M_X11_word 218 218 r 27 218 rho σ [(2, (181 : Int)), (0, x1), (0, x2), (0, x3), (9, 0), (9, 0), (9, 0)] []
  refine ev_iload_n dX11_word_27 rfl ?_
  refine ev_bipush dX11_word_28 (by decide) (by decide) ?_
  refine ev_icmp_ge (tgt := 158) dX11_word_30 rfl h (fun cb h => ?_) (fun cb h => ?_)
  · obtain rfl := Option.some.inj h
    exact ev_sub (L2 := [(2, (181 : Int)), (0, x1), (0, x2), (9, 0), (9, 0), (9, 0), (9, 0)]) K ⟨.inr rfl, .inr rfl, .inr rfl, .inl rfl, .inl rfl, .inl rfl, .inl rfl, trivial⟩
  refine ev_iload_n dX11_word_33 rfl ?_
  refine ev_aload_n dX11_word_34 rfl (by decide) ?_
  refine ev_getf (j := 10) (t := 0) (x := (σ (181 : Int) 10)) dX11_word_35 cf_X11 wf_X11_209 sp181 (by decide) (by decide) rfl (by decide) rfl ?_
  refine ev_icmp_le (tgt := 55) dX11_word_38 rfl h (fun cb h => ?_) (fun cb h => ?_)
  · exact ev_sub (L2 := [(2, (181 : Int)), (0, x1), (0, x2), (0, x3), (9, 0), (9, 0), (9, 0)]) (e_X11_word_55 σ x1 x2 x3 h K) ⟨.inr rfl, .inr rfl, .inr rfl, .inr rfl, .inl rfl, .inl rfl, .inl rfl, trivial⟩
  refine ev_iload_n dX11_word_41 rfl ?_
  refine ev_aload_n dX11_word_42 rfl (by decide) ?_
  refine ev_getf (j := 10) (t := 0) (x := (σ (181 : Int) 10)) dX11_word_43 cf_X11 wf_X11_209 sp181 (by decide) (by decide) rfl (by decide) rfl ?_
  refine ev_isub dX11_word_46 ?_
  refine ev_iconst dX11_word_47 (by decide) ?_
  refine ev_icmp_gt (tgt := 55) dX11_word_48 rfl h (fun cb h => ?_) (fun cb h => ?_)
  · exact ev_sub (L2 := [(2, (181 : Int)), (0, x1), (0, x2), (0, x3), (9, 0), (9, 0), (9, 0)]) (e_X11_word_55 σ x1 x2 x3 h K) ⟨.inr rfl, .inr rfl, .inr rfl, .inr rfl, .inl rfl, .inl rfl, .inl rfl, trivial⟩
  refine ev_iconst dX11_word_51 (by decide) ?_
  refine ev_goto (tgt := 56) dX11_word_52 rfl ?_
  exact ev_sub (L2 := [(2, (181 : Int)), (0, x1), (0, x2), (0, x3), (9, 0), (9, 0), (9, 0)]) (e_X11_word_56 σ x1 x2 x3 (1 : Int) h K) ⟨.inr rfl, .inr rfl, .inr rfl, .inr rfl, .inl rfl, .inl rfl, .inl rfl, trivial⟩
set_option maxHeartbeats 4000000 in
set_option maxRecDepth 20000 in
theorem e_X11_word_27 (σ : Mem) (x1 x2 x3 : Int)  {q : (Int × Mem)} (h : f_X11_word_27 σ x1 x2 x3 = some q) : Ev M_X11_word 218 218 (some (0, q.1), rho, q.2) 27 218 rho σ [(2, (181 : Int)), (0, x1), (0, x2), (0, x3), (9, 0), (9, 0), (9, 0)] [] := by
  unfold f_X11_word_27 at h
  obtain ⟨e, hl, h⟩ := bind_of h
  refine loop_ev (K := K_X11_word_27 σ x1 (some (0, q.1), rho, q.2)) (b_X11_word_27 σ x1) FU (x2, x3) e hl ?_
  show Ev M_X11_word 218 218 _ 158 218 rho σ [(2, (181 : Int)), (0, x1), (0, e), (9, 0), (9, 0), (9, 0), (9, 0)] []
  replace h : f_X11_word_158 σ x1 e = some q := h
  exact ev_sub (L2 := [(2, (181 : Int)), (0, x1), (0, e), (9, 0), (9, 0), (9, 0), (9, 0)]) (e_X11_word_158 σ x1 e h) ⟨.inr rfl, .inr rfl, .inr rfl, .inl rfl, .inl rfl, .inl rfl, .inl rfl, trivial⟩
set_option maxHeartbeats 4000000 in
set_option maxRecDepth 20000 in
theorem e_X11_word_23 (σ : Mem) (x1 : Int)  {q : (Int × Mem)} (h : f_X11_word_23 σ x1 = some q) : Ev M_X11_word 218 218 (some (0, q.1), rho, q.2) 23 218 rho σ [(2, (181 : Int)), (0, x1), (9, 0), (9, 0), (9, 0), (9, 0), (9, 0)] [] := by
  unfold f_X11_word_23 at h
  refine ev_iconst dX11_word_23 (by decide) ?_
  refine ev_istore_n dX11_word_24 rfl (by decide) ?_
  show Ev _ _ _ _ 25 _ _ _ [(2, (181 : Int)), (0, x1), (0, (-1 : Int)), (9, 0), (9, 0), (9, 0), (9, 0)] _
  refine ev_iconst dX11_word_25 (by decide) ?_
  refine ev_istore_n dX11_word_26 rfl (by decide) ?_
  show Ev _ _ _ _ 27 _ _ _ [(2, (181 : Int)), (0, x1), (0, (-1 : Int)), (0, (0 : Int)), (9, 0), (9, 0), (9, 0)] _
  exact ev_sub (L2 := [(2, (181 : Int)), (0, x1), (0, (-1 : Int)), (0, (0 : Int)), (9, 0), (9, 0), (9, 0)]) (e_X11_word_27 σ x1 (-1 : Int) (0 : Int) h) ⟨.inr rfl, .inr rfl, .inr rfl, .inr rfl, .inl rfl, .inl rfl, .inl rfl, trivial⟩
set_option maxHeartbeats 4000000 in
set_option maxRecDepth 20000 in
theorem b_X11_word_9 (σ : Mem)  {r : Option V × Mem × Mem} : ∀ a x, f_X11_word_9B σ a = some x → K_X11_word_9 σ r x → K_X11_word_9 σ r (.inl a) := by
  intro a x h K
  have ⟨x1, ea⟩ : ∃ z, z = a := ⟨_, rfl⟩
  subst ea
  have h : f_X11_word_9C σ x1 = some x := h
  unfold f_X11_word_9C at h
  show Ev M_X11_word 218 218 r 9 218 rho σ [(2, (181 : Int)), (0, x1), (9, 0), (9, 0), (9, 0), (9, 0), (9, 0)] []
  refine ev_aload_n dX11_word_9 rfl (by decide) ?_
  refine ev_iload_n dX11_word_10 rfl ?_
  obtain ⟨v4, hc5, h⟩ := bind_of h
  refine ev_invV_v (k := (181 : Int)) (av := [(0, x1)]) (st := []) (v := (0, v4)) (τ := σ) dX11_word_11 ml_X11_221 mv_X11_isLetter (T := TX11) (ci := 10) rfl sp181 (by decide) (by decide) rfl ⟨Nat.le_of_ble_eq_true rfl, Nat.le_of_ble_eq_true rfl⟩ (Nat.le_of_ble_eq_true rfl) (c_X11_isLetter hc5) ?_
  refine ev_if_eq (tgt := 23) dX11_word_14 rfl h (fun cb h => ?_) (fun cb h => ?_)
  · obtain rfl := Option.some.inj h
    exact ev_sub (L2 := [(2, (181 : Int)), (0, x1), (9, 0), (9, 0), (9, 0), (9, 0), (9, 0)]) K ⟨.inr rfl, .inr rfl, .inl rfl, .inl rfl, .inl rfl, .inl rfl, .inl rfl, trivial⟩
  refine ev_iincG dX11_word_17 rfl h rfl (fun v6 h => ?_)
  show Ev _ _ _ _ 20 _ _ _ [(2, (181 : Int)), (0, v6), (9, 0), (9, 0), (9, 0), (9, 0), (9, 0)] _
  refine ev_goto (tgt := 9) dX11_word_20 rfl ?_
  obtain rfl := Option.some.inj h
  exact ev_sub (L2 := [(2, (181 : Int)), (0, v6), (9, 0), (9, 0), (9, 0), (9, 0), (9, 0)]) K ⟨.inr rfl, .inr rfl, .inl rfl, .inl rfl, .inl rfl, .inl rfl, .inl rfl, trivial⟩
set_option maxHeartbeats 4000000 in
set_option maxRecDepth 20000 in
theorem e_X11_word_9 (σ : Mem) (x1 : Int)  {q : (Int × Mem)} (h : f_X11_word_9 σ x1 = some q) : Ev M_X11_word 218 218 (some (0, q.1), rho, q.2) 9 218 rho σ [(2, (181 : Int)), (0, x1), (9, 0), (9, 0), (9, 0), (9, 0), (9, 0)] [] := by
  unfold f_X11_word_9 at h
  obtain ⟨e, hl, h⟩ := bind_of h
  refine loop_ev (K := K_X11_word_9 σ (some (0, q.1), rho, q.2)) (b_X11_word_9 σ) FU x1 e hl ?_
  show Ev M_X11_word 218 218 _ 23 218 rho σ [(2, (181 : Int)), (0, e), (9, 0), (9, 0), (9, 0), (9, 0), (9, 0)] []
  replace h : f_X11_word_23 σ e = some q := h
  exact ev_sub (L2 := [(2, (181 : Int)), (0, e), (9, 0), (9, 0), (9, 0), (9, 0), (9, 0)]) (e_X11_word_23 σ e h) ⟨.inr rfl, .inr rfl, .inl rfl, .inl rfl, .inl rfl, .inl rfl, .inl rfl, trivial⟩
set_option maxHeartbeats 4000000 in
set_option maxRecDepth 20000 in
theorem c_X11_word {σ : Mem}  {q : (Int × Mem)} (h : f_X11_word σ  = some q) : Ms yX11_word M_X11_word 218 218 [(2, (181 : Int))] rho σ (some (0, q.1), rho, q.2) := by
  refine Ms.of 6 (by decide +kernel) rfl (fun z => absurd z (by decide)) (fun _ _ _ => trivial) rfl rfl ?_
  unfold f_X11_word at h
  show Ev M_X11_word 218 218 _ 0 218 rho σ [(2, (181 : Int)), (9, 0), (9, 0), (9, 0), (9, 0), (9, 0), (9, 0)] []
  refine ev_aload_n dX11_word_0 rfl (by decide) ?_
  obtain ⟨σ1, hc2, h⟩ := bind_of h
  refine ev_invV_n (k := (181 : Int)) (av := []) (st := []) (τ := σ1) dX11_word_1 ml_X11_218 mv_X11_blanks (T := TX11) (ci := 10) rfl sp181 (by decide) (by decide) rfl ⟨Nat.le_of_ble_eq_true rfl, Nat.le_of_ble_eq_true rfl⟩ (Nat.le_of_ble_eq_true rfl) (c_X11_blanks hc2) ?_
  refine ev_aload_n dX11_word_4 rfl (by decide) ?_
  refine ev_getf (j := 10) (t := 0) (x := (σ1 (181 : Int) 10)) dX11_word_5 cf_X11 wf_X11_209 sp181 (by decide) (by decide) rfl (by decide) rfl ?_
  refine ev_istore_nG dX11_word_8 h rfl (by decide) (fun v3 h => ?_)
  show Ev _ _ _ _ 9 _ _ _ [(2, (181 : Int)), (0, v3), (9, 0), (9, 0), (9, 0), (9, 0), (9, 0)] _
  exact ev_sub (L2 := [(2, (181 : Int)), (0, v3), (9, 0), (9, 0), (9, 0), (9, 0), (9, 0)]) (e_X11_word_9 σ1 v3 h) ⟨.inr rfl, .inr rfl, .inl rfl, .inl rfl, .inl rfl, .inl rfl, .inl rfl, trivial⟩
def K_X11_number_17 (x1 x2 : Int) (r : Option V × Mem × Mem) : (Int × Int × Mem) ⊕ ((Int × Int × Mem)) → Prop := Sum.elim (fun a => Ev M_X11_number 218 218 r 17 218 rho a.2.2 [(2, (181 : Int)), (0, x1), (0, x2), (0, a.1), (0, a.2.1)] []) (fun e => Ev M_X11_number 218 218 r 72 218 rho e.2.2 [(2, (181 : Int)), (0, x1), (0, x2), (0, e.1), (0, e.2.1)] [])
set_option maxHeartbeats 4000000 in
set_option maxRecDepth 20000 in
theorem e_X11_number_55 (σ : Mem) (x1 x2 x4 s0 : Int)  {q : ((Int × Int × Mem) ⊕ ((Int × Int × Mem)))} (h : f_X11_number_55 σ x1 x2 x4 s0 = some q) {r : Option V × Mem × Mem} (K : K_X11_number_17 x1 x2 r q) : Ev M_X11_number 218 218 r 55 218 rho σ [(2, (181 : Int)), (0, x1), (0, x2), (9, 0), (0, x4)] [(0, s0)] := by
  unfold f_X11_number_55 at h
  refine ev_istore_n dX11_number_55 rfl (by decide) ?_
  show Ev _ _ _ _ 56 _ _ _ [(2, (181 : Int)), (0, x1), (0, x2), (0, s0), (0, x4)] _
  refine ev_iincG dX11_number_56 rfl h rfl (fun v5 h => ?_)
  show Ev _ _ _ _ 59 _ _ _ [(2, (181 : Int)), (0, x1), (0, x2), (0, s0), (0, v5)] _
  refine ev_aload_n dX11_number_59 rfl (by decide) ?_
  refine ev_dup dX11_number_60 (show (2 : Nat) ≠ 1 by decide) ?_
  refine ev_getf (j := 10) (t := 0) (x := (σ (181 : Int) 10)) dX11_number_61 cf_X11 wf_X11_209 sp181 (by decide) (by decide) rfl (by decide) rfl ?_
  refine ev_iconst dX11_number_64 (by decide) ?_
  refine ev_iadd dX11_number_65 ?_
  refine ev_putfG (j := 10) (t := 0) dX11_number_66 cf_X11 wf_X11_209 sp181 (by decide) (by decide) rfl (by decide) (by decide) rfl (fun z => absurd z (by decide +kernel)) h (fun σ6 h => ?_)
  refine ev_goto (tgt := 17) dX11_number_69 rfl ?_
  obtain rfl := Option.some.inj h
  exact ev_sub (L2 := [(2, (181 : Int)), (0, x1), (0, x2), (0, s0), (0, v5)]) K ⟨.inr rfl, .inr rfl, .inr rfl, .inr rfl, .inr rfl, trivial⟩
set_option maxHeartbeats 4000000 in
set_option maxRecDepth 20000 in
theorem e_X11_number_99 (σ : Mem) (x3 : Int)  {q : Mem} (h : f_X11_number_99 σ x3 = some q) : Ev M_X11_number 218 218 (none, rho, q) 99 218 rho σ [(2, (181 : Int)), (9, 0), (9, 0), (0, x3), (9, 0)] [] := by
  unfold f_X11_number_99 at h
  refine ev_aload_n dX11_number_99 rfl (by decide) ?_
  refine ev_iload_n dX11_number_100 rfl ?_
  refine ev_putfG (j := 12) (t := 0) dX11_number_101 cf_X11 wf_X11_230 sp181 (by decide) (by decide) rfl (by decide) (by decide) rfl (fun z => absurd z (by decide +kernel)) h (fun σ11 h => ?_)
  obtain rfl := Option.some.inj h
  exact ev_vret dX11_number_104 rfl rfl
set_option maxHeartbeats 4000000 in
set_option maxRecDepth 20000 in
theorem e_X11_number_95 (σ : Mem) (x3 : Int)  {q : Mem} (h : f_X11_number_95 σ x3 = some q) : Ev M_X11_number 218 218 (none, rho, q) 95 218 rho σ [(2, (181 : Int)), (9, 0), (9, 0), (0, x3), (9, 0)] [] := by
  unfold f_X11_number_95 at h
  refine ev_aload_n dX11_number_95 rfl (by decide) ?_
  obtain ⟨σ9, hc10, h⟩ := bind_of h
  refine ev_invV_n (k := (181 : Int)) (av := []) (st := []) (τ := σ9) dX11_number_96 ml_X11_227 mv_X11_wrong (T := TX11) (ci := 10) rfl sp181 (by decide) (by decide) rfl ⟨Nat.le_of_ble_eq_true rfl, Nat.le_of_ble_eq_true rfl⟩ (Nat.le_of_ble_eq_true rfl) (c_X11_wrong hc10) ?_
  exact ev_sub (L2 := [(2, (181 : Int)), (9, 0), (9, 0), (0, x3), (9, 0)]) (e_X11_number_99 σ9 x3 h) ⟨.inr rfl, .inl rfl, .inl rfl, .inr rfl, .inl rfl, trivial⟩
set_option maxHeartbeats 4000000 in
set_option maxRecDepth 20000 in
theorem e_X11_number_72 (σ : Mem) (x1 x2 x3 x4 : Int)  {q : Mem} (h : f_X11_number_72 σ x1 x2 x3 x4 = some q) : Ev M_X11_number 218 218 (none, rho, q) 72 218 rho σ [(2, (181 : Int)), (0, x1), (0, x2), (0, x3), (0, x4)] [] := by
  unfold f_X11_number_72 at h
  refine ev_iload dX11_number_72 rfl ?_
  refine ev_if_eq (tgt := 95) dX11_number_74 rfl h (fun cb h => ?_) (fun cb h => ?_)
  · exact ev_sub (L2 := [(2, (181 : Int)), (9, 0), (9, 0), (0, x3), (9, 0)]) (e_X11_number_95 σ x3 h) ⟨.inr rfl, .inl rfl, .inl rfl, .inr rfl, .inl rfl, trivial⟩
  refine ev_iload dX11_number_77 rfl ?_
  refine ev_iconst dX11_number_79 (by decide) ?_
  refine ev_icmp_gt (tgt := 95) dX11_number_80 rfl h (fun cb h => ?_) (fun cb h => ?_)
  · exact ev_sub (L2 := [(2, (181 : Int)), (9, 0), (9, 0), (0, x3), (9, 0)]) (e_X11_number_95 σ x3 h) ⟨.inr rfl, .inl rfl, .inl rfl, .inr rfl, .inl rfl, trivial⟩
  refine ev_iload_n dX11_number_83 rfl ?_
  refine ev_i2lk dX11_number_84 ?_
  refine ev_iload_n dX11_number_85 rfl ?_
  refine ev_i2lk dX11_number_86 ?_
  refine ev_iload_n dX11_number_87 rfl ?_
  refine ev_i2lk dX11_number_88 ?_
  obtain ⟨v7, hc8, h⟩ := bind_of h
  refine ev_invS_v (av := [(1, x3), (1, x1), (1, x2)]) (st := []) (v := (0, v7)) (τ := σ) dX11_number_89 ml_X11_120 mt_X11_isIn rfl ⟨Nat.le_of_ble_eq_true rfl, Nat.le_of_ble_eq_true rfl⟩ (Nat.le_of_ble_eq_true rfl) (c_X11_isIn hc8) ?_
  refine ev_if_ne (tgt := 99) dX11_number_92 rfl h (fun cb h => ?_) (fun cb h => ?_)
  · exact ev_sub (L2 := [(2, (181 : Int)), (9, 0), (9, 0), (0, x3), (9, 0)]) (e_X11_number_99 σ x3 h) ⟨.inr rfl, .inl rfl, .inl rfl, .inr rfl, .inl rfl, trivial⟩
  exact ev_sub (L2 := [(2, (181 : Int)), (9, 0), (9, 0), (0, x3), (9, 0)]) (e_X11_number_95 σ x3 h) ⟨.inr rfl, .inl rfl, .inl rfl, .inr rfl, .inl rfl, trivial⟩
set_option maxHeartbeats 4000000 in
set_option maxRecDepth 20000 in
theorem b_X11_number_17 (x1 x2 : Int)  {r : Option V × Mem × Mem} : ∀ a x, f_X11_number_17B x1 x2 a = some x → K_X11_number_17 x1 x2 r x → K_X11_number_17 x1 x2 r (.inl a) := by
  intro a x h K
  obtain ⟨x3, x4, σ⟩ := a
  have h : f_X11_number_17C x1 x2 x3 x4 σ = some x := h
  unfold f_X11_number_17C at h
  show Ev M_X11_number 218 218 r 17 218 rho σ [(2, (181 : Int)), (0, x1), (0, x2), (0, x3), (0, x4)] []
  refine ev_aload_n dX11_number_17 rfl (by decide) ?_
  refine ev_aload_n dX11_number_18 rfl (by decide) ?_
  refine ev_getf (j := 10) (t := 0) (x := (σ (181 : Int) 10)) dX11_number_19 cf_X11 wf_X11_209 sp181 (by decide) (by decide) rfl (by decide) rfl ?_
  obtain ⟨v3, hc4, h⟩ := bind_of h
  refine ev_invV_v (k := (181 : Int)) (av := [(0, (σ (181 : Int) 10))]) (st := []) (v := (0, v3)) (τ := σ) dX11_number_22 ml_X11_224 mv_X11_isFigure (T := TX11) (ci := 10) rfl sp181 (by decide) (by decide) rfl ⟨Nat.le_of_ble_eq_true rfl, Nat.le_of_ble_eq_true rfl⟩ (Nat.le_of_ble_eq_true rfl) (c_X11_isFigure hc4) ?_
  refine ev_if_eq (tgt := 72) dX11_number_25 rfl h (fun cb h => ?_) (fun cb h => ?_)
  · obtain rfl := Option.some.inj h
    exact ev_sub (L2 := [(2, (181 : Int)), (0, x1), (0, x2), (0, x3), (0, x4)]) K ⟨.inr rfl, .inr rfl, .inr rfl, .inr rfl, .inr rfl, trivial⟩
  refine ev_iload dX11_number_28 rfl ?_
  refine ev_iconst dX11_number_30 (by decide) ?_
  refine ev_icmp_ge (tgt := 54) dX11_number_31 rfl h (fun cb h => ?_) (fun cb h => ?_)
  · refine ev_iload_n dX11_number_54 rfl ?_
    exact ev_sub (L2 := [(2, (181 : Int)), (0, x1), (0, x2), (9, 0), (0, x4)]) (e_X11_number_55 σ x1 x2 x4 x3 h K) ⟨.inr rfl, .inr rfl, .inr rfl, .inl rfl, .inr rfl, trivial⟩
  refine ev_bipush dX11_number_34 (by decide) (by decide) ?_
  refine ev_iload_n dX11_number_36 rfl ?_
  refine ev_imul dX11_number_37 ?_
  refine ev_aload_n dX11_number_38 rfl (by decide) ?_
  refine ev_getf (j := 8) (t := 2) (x := (189 : Int)) dX11_number_39 cf_X11 wf_X11_32 sp181 (by decide) (by decide) rfl (by decide) (rp181_8 _) ?_
  refine ev_aload_n dX11_number_42 rfl (by decide) ?_
  refine ev_getf (j := 10) (t := 0) (x := (σ (181 : Int) 10)) dX11_number_43 cf_X11 wf_X11_209 sp181 (by decide) (by decide) rfl (by decide) rfl ?_
  refine ev_iald dX11_number_46 sp189 (by decide) (by decide) h (fun h => ?_)
  refine ev_iadd dX11_number_47 ?_
  refine ev_bipush dX11_number_48 (by decide) (by decide) ?_
  refine ev_isub dX11_number_50 ?_
  show Ev _ _ _ _ 51 _ _ _ _ _
  refine ev_goto (tgt := 55) dX11_number_51 rfl ?_
  exact ev_sub (L2 := [(2, (181 : Int)), (0, x1), (0, x2), (9, 0), (0, x4)]) (e_X11_number_55 σ x1 x2 x4 (jsub (jadd (jmul (10 : Int) x3) (σ (189 : Int) (σ (181 : Int) 10))) (48 : Int)) h K) ⟨.inr rfl, .inr rfl, .inr rfl, .inl rfl, .inr rfl, trivial⟩
set_option maxHeartbeats 4000000 in
set_option maxRecDepth 20000 in
theorem e_X11_number_17 (σ : Mem) (x1 x2 x3 x4 : Int)  {q : Mem} (h : f_X11_number_17 σ x1 x2 x3 x4 = some q) : Ev M_X11_number 218 218 (none, rho, q) 17 218 rho σ [(2, (181 : Int)), (0, x1), (0, x2), (0, x3), (0, x4)] [] := by
  unfold f_X11_number_17 at h
  obtain ⟨e, hl, h⟩ := bind_of h
  refine loop_ev (K := K_X11_number_17 x1 x2 (none, rho, q)) (b_X11_number_17 x1 x2) FU (x3, x4, σ) e hl ?_
  show Ev M_X11_number 218 218 _ 72 218 rho e.2.2 [(2, (181 : Int)), (0, x1), (0, x2), (0, e.1), (0, e.2.1)] []
  replace h : f_X11_number_72 e.2.2 x1 x2 e.1 e.2.1 = some q := h
  exact ev_sub (L2 := [(2, (181 : Int)), (0, x1), (0, x2), (0, e.1), (0, e.2.1)]) (e_X11_number_72 e.2.2 x1 x2 e.1 e.2.1 h) ⟨.inr rfl, .inr rfl, .inr rfl, .inr rfl, .inr rfl, trivial⟩
set_option maxHeartbeats 4000000 in
set_option maxRecDepth 20000 in
theorem c_X11_number {σ : Mem} {x1 x2 : Int}  {q : Mem} (h : f_X11_number σ x1 x2 = some q) : Ms yX11_number M_X11_number 218 218 [(2, (181 : Int)), (0, x1), (0, x2)] rho σ (none, rho, q) := by
  refine Ms.of 2 (by decide +kernel) rfl (fun z => absurd z (by decide)) (fun _ _ _ => trivial) rfl rfl ?_
  unfold f_X11_number at h
  show Ev M_X11_number 218 218 _ 0 218 rho σ [(2, (181 : Int)), (0, x1), (0, x2), (9, 0), (9, 0)] []
  refine ev_aload_n dX11_number_0 rfl (by decide) ?_
  refine ev_getf (j := 13) (t := 0) (x := (σ (181 : Int) 13)) dX11_number_1 cf_X11 wf_X11_215 sp181 (by decide) (by decide) rfl (by decide) rfl ?_
  refine ev_if_lt (tgt := 8) dX11_number_4 rfl h (fun cb h => ?_) (fun cb h => ?_)
  · refine ev_aload_n dX11_number_8 rfl (by decide) ?_
    obtain ⟨σ1, hc2, h⟩ := bind_of h
    refine ev_invV_n (k := (181 : Int)) (av := []) (st := []) (τ := σ1) dX11_number_9 ml_X11_218 mv_X11_blanks (T := TX11) (ci := 10) rfl sp181 (by decide) (by decide) rfl ⟨Nat.le_of_ble_eq_true rfl, Nat.le_of_ble_eq_true rfl⟩ (Nat.le_of_ble_eq_true rfl) (c_X11_blanks hc2) ?_
    refine ev_iconst dX11_number_12 (by decide) ?_
    refine ev_istore_n dX11_number_13 rfl (by decide) ?_
    show Ev _ _ _ _ 14 _ _ _ [(2, (181 : Int)), (0, x1), (0, x2), (0, (0 : Int)), (9, 0)] _
    refine ev_iconst dX11_number_14 (by decide) ?_
    refine ev_istore dX11_number_15 rfl (by decide) ?_
    show Ev _ _ _ _ 17 _ _ _ [(2, (181 : Int)), (0, x1), (0, x2), (0, (0 : Int)), (0, (0 : Int))] _
    exact ev_sub (L2 := [(2, (181 : Int)), (0, x1), (0, x2), (0, (0 : Int)), (0, (0 : Int))]) (e_X11_number_17 σ1 x1 x2 (0 : Int) (0 : Int) h) ⟨.inr rfl, .inr rfl, .inr rfl, .inr rfl, .inr rfl, trivial⟩
  obtain rfl := Option.some.inj h
  exact ev_vret dX11_number_7 rfl rfl
set_option maxHeartbeats 4000000 in
set_option maxRecDepth 20000 in
theorem e_X11_statement_85 (σ : Mem)  {q : Mem} (h : f_X11_statement_85 σ  = some q) : Ev M_X11_statement 218 218 (none, rho, q) 85 218 rho σ [(2, (181 : Int)), (9, 0), (9, 0), (9, 0), (9, 0)] [] := by
  unfold f_X11_statement_85 at h
  refine ev_aload_n dX11_statement_85 rfl (by decide) ?_
  obtain ⟨σ4, hc5, h⟩ := bind_of h
  refine ev_invV_n (k := (181 : Int)) (av := []) (st := []) (τ := σ4) dX11_statement_86 ml_X11_227 mv_X11_wrong (T := TX11) (ci := 10) rfl sp181 (by decide) (by decide) rfl ⟨Nat.le_of_ble_eq_true rfl, Nat.le_of_ble_eq_true rfl⟩ (Nat.le_of_ble_eq_true rfl) (c_X11_wrong hc5) ?_
  obtain rfl := Option.some.inj h
  exact ev_vret dX11_statement_89 rfl rfl
set_option maxHeartbeats 4000000 in
set_option maxRecDepth 20000 in
theorem e_X11_statement_221 (σ : Mem)  {q : Mem} (h : f_X11_statement_221 σ  = some q) : Ev M_X11_statement 218 218 (none, rho, q) 221 218 rho σ [(9, 0), (9, 0), (9, 0), (9, 0), (9, 0)] [] := by
  unfold f_X11_statement_221 at h
  refine ev_goto (tgt := 438) dX11_statement_221 rfl ?_
  obtain rfl := Option.some.inj h
  exact ev_vret dX11_statement_438 rfl rfl
set_option maxHeartbeats 4000000 in
set_option maxRecDepth 20000 in
theorem e_X11_statement_334 (σ : Mem) (x3 s1 s0 : Int)  {q : Mem} (h : f_X11_statement_334 σ x3 s1 s0 = some q) : Ev M_X11_statement 218 218 (none, rho, q) 334 218 rho σ [(2, (181 : Int)), (9, 0), (9, 0), (0, x3), (9, 0)] [(0, s1), (0, s0)] := by
  unfold f_X11_statement_334 at h
  refine ev_icmp_eq (tgt := 438) dX11_statement_334 rfl h (fun cb h => ?_) (fun cb h => ?_)
  · obtain rfl := Option.some.inj h
    exact ev_vret dX11_statement_438 rfl rfl
  refine ev_aload_n dX11_statement_337 rfl (by decide) ?_
  refine ev_iload_n dX11_statement_338 rfl ?_
  refine ev_aload_n dX11_statement_339 rfl (by decide) ?_
  refine ev_getf (j := 12) (t := 0) (x := (σ (181 : Int) 12)) dX11_statement_340 cf_X11 wf_X11_230 sp181 (by decide) (by decide) rfl (by decide) rfl ?_
  obtain ⟨σ29, hc30, h⟩ := bind_of h
  refine ev_invV_n (k := (181 : Int)) (av := [(0, x3), (0, (σ (181 : Int) 12))]) (st := []) (τ := σ29) dX11_statement_343 ml_X11_197 mv_X11_toggles (T := TX11) (ci := 10) rfl sp181 (by decide) (by decide) rfl ⟨Nat.le_of_ble_eq_true rfl, Nat.le_of_ble_eq_true rfl⟩ (Nat.le_of_ble_eq_true rfl) (c_X11_toggles hc30) ?_
  refine ev_goto (tgt := 438) dX11_statement_346 rfl ?_
  obtain rfl := Option.some.inj h
  exact ev_vret dX11_statement_438 rfl rfl
set_option maxHeartbeats 4000000 in
set_option maxRecDepth 20000 in
theorem e_X11_statement_308 (σ : Mem) (x1 x3 : Int)  {q : Mem} (h : f_X11_statement_308 σ x1 x3 = some q) : Ev M_X11_statement 218 218 (none, rho, q) 308 218 rho σ [(2, (181 : Int)), (0, x1), (9, 0), (0, x3), (9, 0)] [] := by
  unfold f_X11_statement_308 at h
  refine ev_aload_n dX11_statement_308 rfl (by decide) ?_
  refine ev_getf (j := 13) (t := 0) (x := (σ (181 : Int) 13)) dX11_statement_309 cf_X11 wf_X11_215 sp181 (by decide) (by decide) rfl (by decide) rfl ?_
  refine ev_if_ge (tgt := 438) dX11_statement_312 rfl h (fun cb h => ?_) (fun cb h => ?_)
  · obtain rfl := Option.some.inj h
    exact ev_vret dX11_statement_438 rfl rfl
  refine ev_aload_n dX11_statement_315 rfl (by decide) ?_
  refine ev_iload_n dX11_statement_316 rfl ?_
  refine ev_aload_n dX11_statement_317 rfl (by decide) ?_
  refine ev_getf (j := 12) (t := 0) (x := (σ (181 : Int) 12)) dX11_statement_318 cf_X11 wf_X11_230 sp181 (by decide) (by decide) rfl (by decide) rfl ?_
  obtain ⟨v26, hc27, h⟩ := bind_of h
  refine ev_invV_v (k := (181 : Int)) (av := [(0, x3), (0, (σ (181 : Int) 12))]) (st := []) (v := (0, v26)) (τ := σ) dX11_statement_321 ml_X11_182 mv_X11_has (T := TX11) (ci := 10) rfl sp181 (by decide) (by decide) rfl ⟨Nat.le_of_ble_eq_true rfl, Nat.le_of_ble_eq_true rfl⟩ (Nat.le_of_ble_eq_true rfl) (c_X11_has hc27) ?_
  refine ev_iload_n dX11_statement_324 rfl ?_
  refine ev_iconst dX11_statement_325 (by decide) ?_
  refine ev_icmp_ne (tgt := 333) dX11_statement_326 rfl h (fun cb h => ?_) (fun cb h => ?_)
  · refine ev_iconst dX11_statement_333 (by decide) ?_
    exact ev_sub (L2 := [(2, (181 : Int)), (9, 0), (9, 0), (0, x3), (9, 0)]) (e_X11_statement_334 σ x3 (0 : Int) v26 h) ⟨.inr rfl, .inl rfl, .inl rfl, .inr rfl, .inl rfl, trivial⟩
  refine ev_iconst dX11_statement_329 (by decide) ?_
  refine ev_goto (tgt := 334) dX11_statement_330 rfl ?_
  exact ev_sub (L2 := [(2, (181 : Int)), (9, 0), (9, 0), (0, x3), (9, 0)]) (e_X11_statement_334 σ x3 (1 : Int) v26 h) ⟨.inr rfl, .inl rfl, .inl rfl, .inr rfl, .inl rfl, trivial⟩
set_option maxHeartbeats 4000000 in
set_option maxRecDepth 20000 in
theorem e_X11_statement_266 (σ : Mem) (x1 x3 : Int)  {q : Mem} (h : f_X11_statement_266 σ x1 x3 = some q) : Ev M_X11_statement 218 218 (none, rho, q) 266 218 rho σ [(2, (181 : Int)), (0, x1), (9, 0), (0, x3), (9, 0)] [] := by
  unfold f_X11_statement_266 at h
  refine ev_aload_n dX11_statement_266 rfl (by decide) ?_
  refine ev_iconst dX11_statement_267 (by decide) ?_
  refine ev_aload_n dX11_statement_268 rfl (by decide) ?_
  refine ev_getf (j := 0) (t := 2) (x := (182 : Int)) dX11_statement_269 cf_X11 wf_X11_7 sp181 (by decide) (by decide) rfl (by decide) (rp181_0 _) ?_
  refine ev_bipush dX11_statement_272 (by decide) (by decide) ?_
  refine ev_iald dX11_statement_274 sp182 (by decide) (by decide) h (fun h => ?_)
  refine ev_iconst dX11_statement_275 (by decide) ?_
  refine ev_isub dX11_statement_276 ?_
  obtain ⟨σ20, hc21, h⟩ := bind_of h
  refine ev_invV_n (k := (181 : Int)) (av := [(0, (0 : Int)), (0, (jsub (σ (182 : Int) (82 : Int)) (1 : Int)))]) (st := []) (τ := σ20) dX11_statement_277 ml_X11_237 mv_X11_number (T := TX11) (ci := 10) rfl sp181 (by decide) (by decide) rfl ⟨Nat.le_of_ble_eq_true rfl, Nat.le_of_ble_eq_true rfl⟩ (Nat.le_of_ble_eq_true rfl) (c_X11_number hc21) ?_
  refine ev_aload_n dX11_statement_280 rfl (by decide) ?_
  refine ev_getf (j := 13) (t := 0) (x := (σ20 (181 : Int) 13)) dX11_statement_281 cf_X11 wf_X11_215 sp181 (by decide) (by decide) rfl (by decide) rfl ?_
  show Ev _ _ _ _ 284 _ _ _ _ _
  refine ev_if_ge (tgt := 308) dX11_statement_284 rfl h (fun cb h => ?_) (fun cb h => ?_)
  · exact ev_sub (L2 := [(2, (181 : Int)), (0, x1), (9, 0), (0, x3), (9, 0)]) (e_X11_statement_308 σ20 x1 x3 h) ⟨.inr rfl, .inr rfl, .inl rfl, .inr rfl, .inl rfl, trivial⟩
  refine ev_iload_n dX11_statement_287 rfl ?_
  refine ev_iconst dX11_statement_288 (by decide) ?_
  refine ev_icmp_ne (tgt := 308) dX11_statement_289 rfl h (fun cb h => ?_) (fun cb h => ?_)
  · exact ev_sub (L2 := [(2, (181 : Int)), (0, x1), (9, 0), (0, x3), (9, 0)]) (e_X11_statement_308 σ20 x1 x3 h) ⟨.inr rfl, .inr rfl, .inl rfl, .inr rfl, .inl rfl, trivial⟩
  refine ev_aload_n dX11_statement_292 rfl (by decide) ?_
  refine ev_iload_n dX11_statement_293 rfl ?_
  refine ev_aload_n dX11_statement_294 rfl (by decide) ?_
  refine ev_getf (j := 12) (t := 0) (x := (σ20 (181 : Int) 12)) dX11_statement_295 cf_X11 wf_X11_230 sp181 (by decide) (by decide) rfl (by decide) rfl ?_
  obtain ⟨v22, hc23, h⟩ := bind_of h
  refine ev_invV_v (k := (181 : Int)) (av := [(0, x3), (0, (σ20 (181 : Int) 12))]) (st := []) (v := (0, v22)) (τ := σ20) dX11_statement_298 ml_X11_194 mv_X11_isFifth (T := TX11) (ci := 10) rfl sp181 (by decide) (by decide) rfl ⟨Nat.le_of_ble_eq_true rfl, Nat.le_of_ble_eq_true rfl⟩ (Nat.le_of_ble_eq_true rfl) (c_X11_isFifth hc23) ?_
  refine ev_if_eq (tgt := 308) dX11_statement_301 rfl h (fun cb h => ?_) (fun cb h => ?_)
  · exact ev_sub (L2 := [(2, (181 : Int)), (0, x1), (9, 0), (0, x3), (9, 0)]) (e_X11_statement_308 σ20 x1 x3 h) ⟨.inr rfl, .inr rfl, .inl rfl, .inr rfl, .inl rfl, trivial⟩
  refine ev_aload_n dX11_statement_304 rfl (by decide) ?_
  obtain ⟨σ24, hc25, h⟩ := bind_of h
  refine ev_invV_n (k := (181 : Int)) (av := []) (st := []) (τ := σ24) dX11_statement_305 ml_X11_227 mv_X11_wrong (T := TX11) (ci := 10) rfl sp181 (by decide) (by decide) rfl ⟨Nat.le_of_ble_eq_true rfl, Nat.le_of_ble_eq_true rfl⟩ (Nat.le_of_ble_eq_true rfl) (c_X11_wrong hc25) ?_
  exact ev_sub (L2 := [(2, (181 : Int)), (0, x1), (9, 0), (0, x3), (9, 0)]) (e_X11_statement_308 σ24 x1 x3 h) ⟨.inr rfl, .inr rfl, .inl rfl, .inr rfl, .inl rfl, trivial⟩
set_option maxHeartbeats 4000000 in
set_option maxRecDepth 20000 in
theorem e_X11_statement_436 (σ : Mem) (s3 s2 s1 : Int)  {q : Mem} (h : f_X11_statement_436 σ s3 s2 s1 = some q) : Ev M_X11_statement 218 218 (none, rho, q) 436 218 rho σ [(9, 0), (9, 0), (9, 0), (9, 0), (9, 0)] [(0, s3), (0, s2), (0, s1), (2, (182 : Int))] := by
  unfold f_X11_statement_436 at h
  refine ev_iadd dX11_statement_436 ?_
  refine ev_iastG dX11_statement_437 sp182 (by decide) (by decide) h (fun σ31 h => ?_)
  obtain rfl := Option.some.inj h
  exact ev_vret dX11_statement_438 rfl rfl
set_option maxHeartbeats 4000000 in
set_option maxRecDepth 20000 in
theorem e_X11_statement_417 (σ : Mem) (x1 s2 s1 : Int)  {q : Mem} (h : f_X11_statement_417 σ x1 s2 s1 = some q) : Ev M_X11_statement 218 218 (none, rho, q) 417 218 rho σ [(2, (181 : Int)), (0, x1), (9, 0), (9, 0), (9, 0)] [(0, s2), (0, s1), (2, (182 : Int))] := by
  unfold f_X11_statement_417 at h
  refine ev_iastG dX11_statement_417 sp182 (by decide) (by decide) h (fun σ28 h => ?_)
  refine ev_aload_n dX11_statement_418 rfl (by decide) ?_
  refine ev_getf (j := 0) (t := 2) (x := (182 : Int)) dX11_statement_419 cf_X11 wf_X11_7 sp181 (by decide) (by decide) rfl (by decide) (rp181_0 _) ?_
  refine ev_bipush dX11_statement_422 (by decide) (by decide) ?_
  refine ev_dup2 dX11_statement_424 (show (0 : Nat) ≠ 1 by decide) (show (2 : Nat) ≠ 1 by decide) ?_
  refine ev_iald dX11_statement_425 sp182 (by decide) (by decide) h (fun h => ?_)
  refine ev_iload_n dX11_statement_426 rfl ?_
  refine ev_iconst dX11_statement_427 (by decide) ?_
  refine ev_icmp_ne (tgt := 435) dX11_statement_428 rfl h (fun cb h => ?_) (fun cb h => ?_)
  · refine ev_iconst dX11_statement_435 (by decide) ?_
    exact ev_sub (L2 := [(9, 0), (9, 0), (9, 0), (9, 0), (9, 0)]) (e_X11_statement_436 σ28 (0 : Int) (σ28 (182 : Int) (84 : Int)) (84 : Int) h) ⟨.inl rfl, .inl rfl, .inl rfl, .inl rfl, .inl rfl, trivial⟩
  refine ev_iconst dX11_statement_431 (by decide) ?_
  refine ev_goto (tgt := 436) dX11_statement_432 rfl ?_
  exact ev_sub (L2 := [(9, 0), (9, 0), (9, 0), (9, 0), (9, 0)]) (e_X11_statement_436 σ28 (1 : Int) (σ28 (182 : Int) (84 : Int)) (84 : Int) h) ⟨.inl rfl, .inl rfl, .inl rfl, .inl rfl, .inl rfl, trivial⟩
set_option maxHeartbeats 4000000 in
set_option maxRecDepth 20000 in
theorem e_X11_statement_407 (σ : Mem) (x1 x3 s1 : Int)  {q : Mem} (h : f_X11_statement_407 σ x1 x3 s1 = some q) : Ev M_X11_statement 218 218 (none, rho, q) 407 218 rho σ [(2, (181 : Int)), (0, x1), (9, 0), (0, x3), (9, 0)] [(0, s1), (2, (182 : Int))] := by
  unfold f_X11_statement_407 at h
  refine ev_iload_n dX11_statement_407 rfl ?_
  refine ev_iconst dX11_statement_408 (by decide) ?_
  refine ev_icmp_ne (tgt := 416) dX11_statement_409 rfl h (fun cb h => ?_) (fun cb h => ?_)
  · refine ev_iload_n dX11_statement_416 rfl ?_
    exact ev_sub (L2 := [(2, (181 : Int)), (0, x1), (9, 0), (9, 0), (9, 0)]) (e_X11_statement_417 σ x1 x3 s1 h) ⟨.inr rfl, .inr rfl, .inl rfl, .inl rfl, .inl rfl, trivial⟩
  refine ev_iconst dX11_statement_412 (by decide) ?_
  refine ev_goto (tgt := 417) dX11_statement_413 rfl ?_
  exact ev_sub (L2 := [(2, (181 : Int)), (0, x1), (9, 0), (9, 0), (9, 0)]) (e_X11_statement_417 σ x1 (1 : Int) s1 h) ⟨.inr rfl, .inr rfl, .inl rfl, .inl rfl, .inl rfl, trivial⟩
set_option maxHeartbeats 4000000 in
set_option maxRecDepth 20000 in
theorem e_X11_statement_170 (σ : Mem) (x1 s2 s1 : Int)  {q : Mem} (h : f_X11_statement_170 σ x1 s2 s1 = some q) : Ev M_X11_statement 218 218 (none, rho, q) 170 218 rho σ [(2, (181 : Int)), (0, x1), (9, 0), (9, 0), (9, 0)] [(0, s2), (0, s1), (2, (181 : Int))] := by
  unfold f_X11_statement_170 at h
  obtain ⟨σ6, hc7, h⟩ := bind_of h
  refine ev_invV_n (k := (181 : Int)) (av := [(0, s1), (0, s2)]) (st := []) (τ := σ6) dX11_statement_170 ml_X11_237 mv_X11_number (T := TX11) (ci := 10) rfl sp181 (by decide) (by decide) rfl ⟨Nat.le_of_ble_eq_true rfl, Nat.le_of_ble_eq_true rfl⟩ (Nat.le_of_ble_eq_true rfl) (c_X11_number hc7) ?_
  refine ev_aload_n dX11_statement_173 rfl (by decide) ?_
  refine ev_getf (j := 12) (t := 0) (x := (σ6 (181 : Int) 12)) dX11_statement_174 cf_X11 wf_X11_230 sp181 (by decide) (by decide) rfl (by decide) rfl ?_
  refine ev_istore_nG dX11_statement_177 h rfl (by decide) (fun v8 h => ?_)
  show Ev _ _ _ _ 178 _ _ _ [(2, (181 : Int)), (0, x1), (9, 0), (0, v8), (9, 0)] _
  refine ev_iload_n dX11_statement_178 rfl ?_
  refine ev_if_ne (tgt := 224) dX11_statement_179 rfl h (fun cb h => ?_) (fun cb h => ?_)
  · refine ev_iload_n dX11_statement_224 rfl ?_
    refine ev_iconst dX11_statement_225 (by decide) ?_
    refine ev_icmp_ne (tgt := 256) dX11_statement_226 rfl h (fun cb h => ?_) (fun cb h => ?_)
    · refine ev_iload_n dX11_statement_256 rfl ?_
      refine ev_iconst dX11_statement_257 (by decide) ?_
      refine ev_icmp_eq (tgt := 266) dX11_statement_258 rfl h (fun cb h => ?_) (fun cb h => ?_)
      · exact ev_sub (L2 := [(2, (181 : Int)), (0, x1), (9, 0), (0, v8), (9, 0)]) (e_X11_statement_266 σ6 x1 v8 h) ⟨.inr rfl, .inr rfl, .inl rfl, .inr rfl, .inl rfl, trivial⟩
      refine ev_iload_n dX11_statement_261 rfl ?_
      refine ev_iconst dX11_statement_262 (by decide) ?_
      refine ev_icmp_ne (tgt := 349) dX11_statement_263 rfl h (fun cb h => ?_) (fun cb h => ?_)
      · refine ev_aload_n dX11_statement_349 rfl (by decide) ?_
        refine ev_getf (j := 13) (t := 0) (x := (σ6 (181 : Int) 13)) dX11_statement_350 cf_X11 wf_X11_215 sp181 (by decide) (by decide) rfl (by decide) rfl ?_
        refine ev_if_ge (tgt := 438) dX11_statement_353 rfl h (fun cb h => ?_) (fun cb h => ?_)
        · obtain rfl := Option.some.inj h
          exact ev_vret dX11_statement_438 rfl rfl
        refine ev_aload_n dX11_statement_356 rfl (by decide) ?_
        refine ev_getf (j := 0) (t := 2) (x := (182 : Int)) dX11_statement_357 cf_X11 wf_X11_7 sp181 (by decide) (by decide) rfl (by decide) (rp181_0 _) ?_
        refine ev_iload_n dX11_statement_360 rfl ?_
        refine ev_iconst dX11_statement_361 (by decide) ?_
        refine ev_icmp_ne (tgt := 376) dX11_statement_362 rfl h (fun cb h => ?_) (fun cb h => ?_)
        · refine ev_iload_n dX11_statement_376 rfl ?_
          refine ev_iconst dX11_statement_377 (by decide) ?_
          refine ev_icmp_ne (tgt := 394) dX11_statement_378 rfl h (fun cb h => ?_) (fun cb h => ?_)
          · refine ev_iload_n dX11_statement_394 rfl ?_
            refine ev_bipush dX11_statement_395 (by decide) (by decide) ?_
            refine ev_icmp_ne (tgt := 405) dX11_statement_397 rfl h (fun cb h => ?_) (fun cb h => ?_)
            · refine ev_bipush dX11_statement_405 (by decide) (by decide) ?_
              exact ev_sub (L2 := [(2, (181 : Int)), (0, x1), (9, 0), (0, v8), (9, 0)]) (e_X11_statement_407 σ6 x1 v8 (86 : Int) h) ⟨.inr rfl, .inr rfl, .inl rfl, .inr rfl, .inl rfl, trivial⟩
            refine ev_bipush dX11_statement_400 (by decide) (by decide) ?_
            refine ev_goto (tgt := 407) dX11_statement_402 rfl ?_
            exact ev_sub (L2 := [(2, (181 : Int)), (0, x1), (9, 0), (0, v8), (9, 0)]) (e_X11_statement_407 σ6 x1 v8 (85 : Int) h) ⟨.inr rfl, .inr rfl, .inl rfl, .inr rfl, .inl rfl, trivial⟩
          refine ev_bipush dX11_statement_381 (by decide) (by decide) ?_
          refine ev_aload_n dX11_statement_383 rfl (by decide) ?_
          refine ev_getf (j := 0) (t := 2) (x := (182 : Int)) dX11_statement_384 cf_X11 wf_X11_7 sp181 (by decide) (by decide) rfl (by decide) (rp181_0 _) ?_
          refine ev_bipush dX11_statement_387 (by decide) (by decide) ?_
          refine ev_iald dX11_statement_389 sp182 (by decide) (by decide) h (fun h => ?_)
          refine ev_iadd dX11_statement_390 ?_
          refine ev_goto (tgt := 407) dX11_statement_391 rfl ?_
          exact ev_sub (L2 := [(2, (181 : Int)), (0, x1), (9, 0), (0, v8), (9, 0)]) (e_X11_statement_407 σ6 x1 v8 (jadd (76 : Int) (σ6 (182 : Int) (84 : Int))) h) ⟨.inr rfl, .inr rfl, .inl rfl, .inr rfl, .inl rfl, trivial⟩
        refine ev_bipush dX11_statement_365 (by decide) (by decide) ?_
        refine ev_iconst dX11_statement_367 (by decide) ?_
        refine ev_iload_n dX11_statement_368 rfl ?_
        refine ev_imul dX11_statement_369 ?_
        refine ev_iadd dX11_statement_370 ?_
        refine ev_iconst dX11_statement_371 (by decide) ?_
        refine ev_iadd dX11_statement_372 ?_
        refine ev_goto (tgt := 407) dX11_statement_373 rfl ?_
        exact ev_sub (L2 := [(2, (181 : Int)), (0, x1), (9, 0), (0, v8), (9, 0)]) (e_X11_statement_407 σ6 x1 v8 (jadd (jadd (36 : Int) (jmul (4 : Int) v8)) (2 : Int)) h) ⟨.inr rfl, .inr rfl, .inl rfl, .inr rfl, .inl rfl, trivial⟩
      exact ev_sub (L2 := [(2, (181 : Int)), (0, x1), (9, 0), (0, v8), (9, 0)]) (e_X11_statement_266 σ6 x1 v8 h) ⟨.inr rfl, .inr rfl, .inl rfl, .inr rfl, .inl rfl, trivial⟩
    refine ev_aload_n dX11_statement_229 rfl (by decide) ?_
    refine ev_iconst dX11_statement_230 (by decide) ?_
    refine ev_bipush dX11_statement_231 (by decide) (by decide) ?_
    obtain ⟨σ9, hc10, h⟩ := bind_of h
    refine ev_invV_n (k := (181 : Int)) (av := [(0, (0 : Int)), (0, (9 : Int))]) (st := []) (τ := σ9) dX11_statement_233 ml_X11_237 mv_X11_number (T := TX11) (ci := 10) rfl sp181 (by decide) (by decide) rfl ⟨Nat.le_of_ble_eq_true rfl, Nat.le_of_ble_eq_true rfl⟩ (Nat.le_of_ble_eq_true rfl) (c_X11_number hc10) ?_
    refine ev_aload_n dX11_statement_236 rfl (by decide) ?_
    refine ev_getf (j := 13) (t := 0) (x := (σ9 (181 : Int) 13)) dX11_statement_237 cf_X11 wf_X11_215 sp181 (by decide) (by decide) rfl (by decide) rfl ?_
    refine ev_if_ge (tgt := 438) dX11_statement_240 rfl h (fun cb h => ?_) (fun cb h => ?_)
    · obtain rfl := Option.some.inj h
      exact ev_vret dX11_statement_438 rfl rfl
    refine ev_aload_n dX11_statement_243 rfl (by decide) ?_
    refine ev_iload_n dX11_statement_244 rfl ?_
    refine ev_aload_n dX11_statement_245 rfl (by decide) ?_
    refine ev_getf (j := 12) (t := 0) (x := (σ9 (181 : Int) 12)) dX11_statement_246 cf_X11 wf_X11_230 sp181 (by decide) (by decide) rfl (by decide) rfl ?_
    obtain ⟨v11, hc12, h⟩ := bind_of h
    refine ev_invV_v (k := (181 : Int)) (av := [(0, v8), (0, (σ9 (181 : Int) 12))]) (st := []) (v := (0, v11.1)) (τ := v11.2) dX11_statement_249 ml_X11_242 mv_X11_cand (T := TX11) (ci := 10) rfl sp181 (by decide) (by decide) rfl ⟨Nat.le_of_ble_eq_true rfl, Nat.le_of_ble_eq_true rfl⟩ (Nat.le_of_ble_eq_true rfl) (c_X11_cand hc12) ?_
    refine ev_pop dX11_statement_252 (show (0 : Nat) ≠ 1 by decide) ?_
    refine ev_goto (tgt := 438) dX11_statement_253 rfl ?_
    obtain rfl := Option.some.inj h
    exact ev_vret dX11_statement_438 rfl rfl
  refine ev_aload_n dX11_statement_182 rfl (by decide) ?_
  refine ev_iconst dX11_statement_183 (by decide) ?_
  refine ev_bipush dX11_statement_184 (by decide) (by decide) ?_
  obtain ⟨σ13, hc14, h⟩ := bind_of h
  refine ev_invV_n (k := (181 : Int)) (av := [(0, (0 : Int)), (0, (47 : Int))]) (st := []) (τ := σ13) dX11_statement_186 ml_X11_237 mv_X11_number (T := TX11) (ci := 10) rfl sp181 (by decide) (by decide) rfl ⟨Nat.le_of_ble_eq_true rfl, Nat.le_of_ble_eq_true rfl⟩ (Nat.le_of_ble_eq_true rfl) (c_X11_number hc14) ?_
  refine ev_aload_n dX11_statement_189 rfl (by decide) ?_
  refine ev_getf (j := 12) (t := 0) (x := (σ13 (181 : Int) 12)) dX11_statement_190 cf_X11 wf_X11_230 sp181 (by decide) (by decide) rfl (by decide) rfl ?_
  refine ev_istoreG dX11_statement_193 h rfl (by decide) (fun v15 h => ?_)
  show Ev _ _ _ _ 195 _ _ _ [(2, (181 : Int)), (0, x1), (9, 0), (0, v8), (0, v15)] _
  refine ev_aload_n dX11_statement_195 rfl (by decide) ?_
  refine ev_iconst dX11_statement_196 (by decide) ?_
  refine ev_bipush dX11_statement_197 (by decide) (by decide) ?_
  obtain ⟨σ16, hc17, h⟩ := bind_of h
  refine ev_invV_n (k := (181 : Int)) (av := [(0, (1 : Int)), (0, (12 : Int))]) (st := []) (τ := σ16) dX11_statement_199 ml_X11_237 mv_X11_number (T := TX11) (ci := 10) rfl sp181 (by decide) (by decide) rfl ⟨Nat.le_of_ble_eq_true rfl, Nat.le_of_ble_eq_true rfl⟩ (Nat.le_of_ble_eq_true rfl) (c_X11_number hc17) ?_
  show Ev _ _ _ _ 202 _ _ _ _ _
  refine ev_aload_n dX11_statement_202 rfl (by decide) ?_
  refine ev_getf (j := 13) (t := 0) (x := (σ16 (181 : Int) 13)) dX11_statement_203 cf_X11 wf_X11_215 sp181 (by decide) (by decide) rfl (by decide) rfl ?_
  refine ev_if_ge (tgt := 221) dX11_statement_206 rfl h (fun cb h => ?_) (fun cb h => ?_)
  · exact ev_sub (L2 := [(9, 0), (9, 0), (9, 0), (9, 0), (9, 0)]) (e_X11_statement_221 σ16 h) ⟨.inl rfl, .inl rfl, .inl rfl, .inl rfl, .inl rfl, trivial⟩
  refine ev_aload_n dX11_statement_209 rfl (by decide) ?_
  refine ev_iload_n dX11_statement_210 rfl ?_
  refine ev_iload dX11_statement_211 rfl ?_
  refine ev_aload_n dX11_statement_213 rfl (by decide) ?_
  refine ev_getf (j := 12) (t := 0) (x := (σ16 (181 : Int) 12)) dX11_statement_214 cf_X11 wf_X11_230 sp181 (by decide) (by decide) rfl (by decide) rfl ?_
  obtain ⟨v18, hc19, h⟩ := bind_of h
  refine ev_invV_v (k := (181 : Int)) (av := [(0, v8), (0, v15), (0, (σ16 (181 : Int) 12))]) (st := []) (v := (0, v18.1)) (τ := v18.2) dX11_statement_217 ml_X11_239 mv_X11_paper (T := TX11) (ci := 10) rfl sp181 (by decide) (by decide) rfl ⟨Nat.le_of_ble_eq_true rfl, Nat.le_of_ble_eq_true rfl⟩ (Nat.le_of_ble_eq_true rfl) (c_X11_paper hc19) ?_
  refine ev_pop dX11_statement_220 (show (0 : Nat) ≠ 1 by decide) ?_
  exact ev_sub (L2 := [(9, 0), (9, 0), (9, 0), (9, 0), (9, 0)]) (e_X11_statement_221 v18.2 h) ⟨.inl rfl, .inl rfl, .inl rfl, .inl rfl, .inl rfl, trivial⟩
set_option maxHeartbeats 4000000 in
set_option maxRecDepth 20000 in
theorem e_X11_statement_112 (σ : Mem) (x1 s1 : Int)  {q : Mem} (h : f_X11_statement_112 σ x1 s1 = some q) : Ev M_X11_statement 218 218 (none, rho, q) 112 218 rho σ [(2, (181 : Int)), (0, x1), (9, 0), (9, 0), (9, 0)] [(0, s1), (2, (181 : Int))] := by
  unfold f_X11_statement_112 at h
  refine ev_iload_n dX11_statement_112 rfl ?_
  refine ev_if_ne (tgt := 120) dX11_statement_113 rfl h (fun cb h => ?_) (fun cb h => ?_)
  · refine ev_iload_n dX11_statement_120 rfl ?_
    refine ev_iconst dX11_statement_121 (by decide) ?_
    refine ev_icmp_ne (tgt := 129) dX11_statement_122 rfl h (fun cb h => ?_) (fun cb h => ?_)
    · refine ev_iload_n dX11_statement_129 rfl ?_
      refine ev_iconst dX11_statement_130 (by decide) ?_
      refine ev_icmp_ne (tgt := 139) dX11_statement_131 rfl h (fun cb h => ?_) (fun cb h => ?_)
      · refine ev_iload_n dX11_statement_139 rfl ?_
        refine ev_bipush dX11_statement_140 (by decide) (by decide) ?_
        refine ev_icmp_ne (tgt := 150) dX11_statement_142 rfl h (fun cb h => ?_) (fun cb h => ?_)
        · refine ev_iload_n dX11_statement_150 rfl ?_
          refine ev_bipush dX11_statement_151 (by decide) (by decide) ?_
          refine ev_icmp_ne (tgt := 161) dX11_statement_153 rfl h (fun cb h => ?_) (fun cb h => ?_)
          · refine ev_aload_n dX11_statement_161 rfl (by decide) ?_
            refine ev_getf (j := 0) (t := 2) (x := (182 : Int)) dX11_statement_162 cf_X11 wf_X11_7 sp181 (by decide) (by decide) rfl (by decide) (rp181_0 _) ?_
            refine ev_bipush dX11_statement_165 (by decide) (by decide) ?_
            refine ev_iald dX11_statement_167 sp182 (by decide) (by decide) h (fun h => ?_)
            refine ev_iconst dX11_statement_168 (by decide) ?_
            refine ev_isub dX11_statement_169 ?_
            exact ev_sub (L2 := [(2, (181 : Int)), (0, x1), (9, 0), (9, 0), (9, 0)]) (e_X11_statement_170 σ x1 (jsub (σ (182 : Int) (83 : Int)) (1 : Int)) s1 h) ⟨.inr rfl, .inr rfl, .inl rfl, .inl rfl, .inl rfl, trivial⟩
          refine ev_bipush dX11_statement_156 (by decide) (by decide) ?_
          refine ev_goto (tgt := 170) dX11_statement_158 rfl ?_
          exact ev_sub (L2 := [(2, (181 : Int)), (0, x1), (9, 0), (9, 0), (9, 0)]) (e_X11_statement_170 σ x1 (8 : Int) s1 h) ⟨.inr rfl, .inr rfl, .inl rfl, .inl rfl, .inl rfl, trivial⟩
        refine ev_bipush dX11_statement_145 (by decide) (by decide) ?_
        refine ev_goto (tgt := 170) dX11_statement_147 rfl ?_
        exact ev_sub (L2 := [(2, (181 : Int)), (0, x1), (9, 0), (9, 0), (9, 0)]) (e_X11_statement_170 σ x1 (40 : Int) s1 h) ⟨.inr rfl, .inr rfl, .inl rfl, .inl rfl, .inl rfl, trivial⟩
      refine ev_bipush dX11_statement_134 (by decide) (by decide) ?_
      refine ev_goto (tgt := 170) dX11_statement_136 rfl ?_
      exact ev_sub (L2 := [(2, (181 : Int)), (0, x1), (9, 0), (9, 0), (9, 0)]) (e_X11_statement_170 σ x1 (9 : Int) s1 h) ⟨.inr rfl, .inr rfl, .inl rfl, .inl rfl, .inl rfl, trivial⟩
    refine ev_iconst dX11_statement_125 (by decide) ?_
    refine ev_goto (tgt := 170) dX11_statement_126 rfl ?_
    exact ev_sub (L2 := [(2, (181 : Int)), (0, x1), (9, 0), (9, 0), (9, 0)]) (e_X11_statement_170 σ x1 (5 : Int) s1 h) ⟨.inr rfl, .inr rfl, .inl rfl, .inl rfl, .inl rfl, trivial⟩
  refine ev_iconst dX11_statement_116 (by decide) ?_
  refine ev_goto (tgt := 170) dX11_statement_117 rfl ?_
  exact ev_sub (L2 := [(2, (181 : Int)), (0, x1), (9, 0), (9, 0), (9, 0)]) (e_X11_statement_170 σ x1 (4 : Int) s1 h) ⟨.inr rfl, .inr rfl, .inl rfl, .inl rfl, .inl rfl, trivial⟩
set_option maxHeartbeats 4000000 in
set_option maxRecDepth 20000 in
theorem e_X11_statement_76 (σ : Mem) (x1 s0 : Int)  {q : Mem} (h : f_X11_statement_76 σ x1 s0 = some q) : Ev M_X11_statement 218 218 (none, rho, q) 76 218 rho σ [(2, (181 : Int)), (0, x1), (9, 0), (9, 0), (9, 0)] [(0, s0)] := by
  unfold f_X11_statement_76 at h
  refine ev_istore_n dX11_statement_76 rfl (by decide) ?_
  show Ev _ _ _ _ 77 _ _ _ [(2, (181 : Int)), (0, x1), (0, s0), (9, 0), (9, 0)] _
  refine ev_iload_n dX11_statement_77 rfl ?_
  refine ev_if_lt (tgt := 85) dX11_statement_78 rfl h (fun cb h => ?_) (fun cb h => ?_)
  · exact ev_sub (L2 := [(2, (181 : Int)), (9, 0), (9, 0), (9, 0), (9, 0)]) (e_X11_statement_85 σ h) ⟨.inr rfl, .inl rfl, .inl rfl, .inl rfl, .inl rfl, trivial⟩
  refine ev_iload_n dX11_statement_81 rfl ?_
  refine ev_if_ne (tgt := 90) dX11_statement_82 rfl h (fun cb h => ?_) (fun cb h => ?_)
  · refine ev_aload_n dX11_statement_90 rfl (by decide) ?_
    refine ev_iload_n dX11_statement_91 rfl ?_
    refine ev_iconst dX11_statement_92 (by decide) ?_
    refine ev_icmp_ne (tgt := 100) dX11_statement_93 rfl h (fun cb h => ?_) (fun cb h => ?_)
    · refine ev_iload_n dX11_statement_100 rfl ?_
      refine ev_bipush dX11_statement_101 (by decide) (by decide) ?_
      refine ev_icmp_ne (tgt := 111) dX11_statement_103 rfl h (fun cb h => ?_) (fun cb h => ?_)
      · refine ev_iconst dX11_statement_111 (by decide) ?_
        exact ev_sub (L2 := [(2, (181 : Int)), (0, x1), (9, 0), (9, 0), (9, 0)]) (e_X11_statement_112 σ x1 (0 : Int) h) ⟨.inr rfl, .inr rfl, .inl rfl, .inl rfl, .inl rfl, trivial⟩
      refine ev_bipush dX11_statement_106 (by decide) (by decide) ?_
      refine ev_goto (tgt := 112) dX11_statement_108 rfl ?_
      exact ev_sub (L2 := [(2, (181 : Int)), (0, x1), (9, 0), (9, 0), (9, 0)]) (e_X11_statement_112 σ x1 (8 : Int) h) ⟨.inr rfl, .inr rfl, .inl rfl, .inl rfl, .inl rfl, trivial⟩
    refine ev_iconst dX11_statement_96 (by decide) ?_
    refine ev_goto (tgt := 112) dX11_statement_97 rfl ?_
    exact ev_sub (L2 := [(2, (181 : Int)), (0, x1), (9, 0), (9, 0), (9, 0)]) (e_X11_statement_112 σ x1 (1 : Int) h) ⟨.inr rfl, .inr rfl, .inl rfl, .inl rfl, .inl rfl, trivial⟩
  exact ev_sub (L2 := [(2, (181 : Int)), (9, 0), (9, 0), (9, 0), (9, 0)]) (e_X11_statement_85 σ h) ⟨.inr rfl, .inl rfl, .inl rfl, .inl rfl, .inl rfl, trivial⟩
set_option maxHeartbeats 4000000 in
set_option maxRecDepth 20000 in
theorem e_X11_statement_71 (σ : Mem) (x1 : Int)  {q : Mem} (h : f_X11_statement_71 σ x1 = some q) : Ev M_X11_statement 218 218 (none, rho, q) 71 218 rho σ [(2, (181 : Int)), (0, x1), (9, 0), (9, 0), (9, 0)] [] := by
  unfold f_X11_statement_71 at h
  refine ev_iconst dX11_statement_71 (by decide) ?_
  refine ev_goto (tgt := 76) dX11_statement_72 rfl ?_
  exact ev_sub (L2 := [(2, (181 : Int)), (0, x1), (9, 0), (9, 0), (9, 0)]) (e_X11_statement_76 σ x1 (1 : Int) h) ⟨.inr rfl, .inr rfl, .inl rfl, .inl rfl, .inl rfl, trivial⟩
set_option maxHeartbeats 4000000 in
set_option maxRecDepth 20000 in
theorem c_X11_statement {σ : Mem}  {q : Mem} (h : f_X11_statement σ  = some q) : Ms yX11_statement M_X11_statement 218 218 [(2, (181 : Int))] rho σ (none, rho, q) := by
  refine Ms.of 4 (by decide +kernel) rfl (fun z => absurd z (by decide)) (fun _ _ _ => trivial) rfl rfl ?_
  unfold f_X11_statement at h
  show Ev M_X11_statement 218 218 _ 0 218 rho σ [(2, (181 : Int)), (9, 0), (9, 0), (9, 0), (9, 0)] []
  refine ev_aload_n dX11_statement_0 rfl (by decide) ?_
  obtain ⟨v1, hc2, h⟩ := bind_of h
  refine ev_invV_v (k := (181 : Int)) (av := []) (st := []) (v := (0, v1.1)) (τ := v1.2) dX11_statement_1 ml_X11_233 mv_X11_word (T := TX11) (ci := 10) rfl sp181 (by decide) (by decide) rfl ⟨Nat.le_of_ble_eq_true rfl, Nat.le_of_ble_eq_true rfl⟩ (Nat.le_of_ble_eq_true rfl) (c_X11_word hc2) ?_
  refine ev_istore_nG dX11_statement_4 h rfl (by decide) (fun v3 h => ?_)
  show Ev _ _ _ _ 5 _ _ _ [(2, (181 : Int)), (0, v3), (9, 0), (9, 0), (9, 0)] _
  refine ev_iload_n dX11_statement_5 rfl ?_
  refine ev_if_ne (tgt := 29) dX11_statement_6 rfl h (fun cb h => ?_) (fun cb h => ?_)
  · refine ev_iload_n dX11_statement_29 rfl ?_
    refine ev_iconst dX11_statement_30 (by decide) ?_
    refine ev_icmp_ne (tgt := 54) dX11_statement_31 rfl h (fun cb h => ?_) (fun cb h => ?_)
    · refine ev_iload_n dX11_statement_54 rfl ?_
      refine ev_iconst dX11_statement_55 (by decide) ?_
      refine ev_icmp_ne (tgt := 71) dX11_statement_56 rfl h (fun cb h => ?_) (fun cb h => ?_)
      · exact ev_sub (L2 := [(2, (181 : Int)), (0, v3), (9, 0), (9, 0), (9, 0)]) (e_X11_statement_71 v1.2 v3 h) ⟨.inr rfl, .inr rfl, .inl rfl, .inl rfl, .inl rfl, trivial⟩
      refine ev_aload_n dX11_statement_59 rfl (by decide) ?_
      refine ev_getf (j := 0) (t := 2) (x := (182 : Int)) dX11_statement_60 cf_X11 wf_X11_7 sp181 (by decide) (by decide) rfl (by decide) (rp181_0 _) ?_
      refine ev_bipush dX11_statement_63 (by decide) (by decide) ?_
      refine ev_iald dX11_statement_65 sp182 (by decide) (by decide) h (fun h => ?_)
      refine ev_bipush dX11_statement_66 (by decide) (by decide) ?_
      refine ev_icmp_ge (tgt := 75) dX11_statement_68 rfl h (fun cb h => ?_) (fun cb h => ?_)
      · refine ev_iconst dX11_statement_75 (by decide) ?_
        exact ev_sub (L2 := [(2, (181 : Int)), (0, v3), (9, 0), (9, 0), (9, 0)]) (e_X11_statement_76 v1.2 v3 (0 : Int) h) ⟨.inr rfl, .inr rfl, .inl rfl, .inl rfl, .inl rfl, trivial⟩
      exact ev_sub (L2 := [(2, (181 : Int)), (0, v3), (9, 0), (9, 0), (9, 0)]) (e_X11_statement_71 v1.2 v3 h) ⟨.inr rfl, .inr rfl, .inl rfl, .inl rfl, .inl rfl, trivial⟩
    refine ev_aload_n dX11_statement_34 rfl (by decide) ?_
    refine ev_getf (j := 0) (t := 2) (x := (182 : Int)) dX11_statement_35 cf_X11 wf_X11_7 sp181 (by decide) (by decide) rfl (by decide) (rp181_0 _) ?_
    refine ev_bipush dX11_statement_38 (by decide) (by decide) ?_
    refine ev_iald dX11_statement_40 sp182 (by decide) (by decide) h (fun h => ?_)
    refine ev_bipush dX11_statement_41 (by decide) (by decide) ?_
    refine ev_icmp_ge (tgt := 50) dX11_statement_43 rfl h (fun cb h => ?_) (fun cb h => ?_)
    · refine ev_iconst dX11_statement_50 (by decide) ?_
      refine ev_goto (tgt := 76) dX11_statement_51 rfl ?_
      exact ev_sub (L2 := [(2, (181 : Int)), (0, v3), (9, 0), (9, 0), (9, 0)]) (e_X11_statement_76 v1.2 v3 (0 : Int) h) ⟨.inr rfl, .inr rfl, .inl rfl, .inl rfl, .inl rfl, trivial⟩
    refine ev_iconst dX11_statement_46 (by decide) ?_
    refine ev_goto (tgt := 76) dX11_statement_47 rfl ?_
    exact ev_sub (L2 := [(2, (181 : Int)), (0, v3), (9, 0), (9, 0), (9, 0)]) (e_X11_statement_76 v1.2 v3 (1 : Int) h) ⟨.inr rfl, .inr rfl, .inl rfl, .inl rfl, .inl rfl, trivial⟩
  refine ev_aload_n dX11_statement_9 rfl (by decide) ?_
  refine ev_getf (j := 0) (t := 2) (x := (182 : Int)) dX11_statement_10 cf_X11 wf_X11_7 sp181 (by decide) (by decide) rfl (by decide) (rp181_0 _) ?_
  refine ev_bipush dX11_statement_13 (by decide) (by decide) ?_
  refine ev_iald dX11_statement_15 sp182 (by decide) (by decide) h (fun h => ?_)
  refine ev_bipush dX11_statement_16 (by decide) (by decide) ?_
  refine ev_icmp_ge (tgt := 25) dX11_statement_18 rfl h (fun cb h => ?_) (fun cb h => ?_)
  · refine ev_iconst dX11_statement_25 (by decide) ?_
    refine ev_goto (tgt := 76) dX11_statement_26 rfl ?_
    exact ev_sub (L2 := [(2, (181 : Int)), (0, v3), (9, 0), (9, 0), (9, 0)]) (e_X11_statement_76 v1.2 v3 (0 : Int) h) ⟨.inr rfl, .inr rfl, .inl rfl, .inl rfl, .inl rfl, trivial⟩
  refine ev_iconst dX11_statement_21 (by decide) ?_
  refine ev_goto (tgt := 76) dX11_statement_22 rfl ?_
  exact ev_sub (L2 := [(2, (181 : Int)), (0, v3), (9, 0), (9, 0), (9, 0)]) (e_X11_statement_76 v1.2 v3 (1 : Int) h) ⟨.inr rfl, .inr rfl, .inl rfl, .inl rfl, .inl rfl, trivial⟩
