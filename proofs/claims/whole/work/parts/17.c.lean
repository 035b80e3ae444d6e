def K_X11_changes_50 (x1 : Int) (r : Option V × Mem × Mem) : (Int × Int × Mem) ⊕ ((Int × Mem)) → Prop := Sum.elim (fun a => Ev M_X11_changes 218 218 r 50 218 rho a.2.2 [(2, (181 : Int)), (0, x1), (0, a.1), (0, a.2.1), (9, 0), (9, 0)] []) (fun e => Ev M_X11_changes 218 218 r 109 218 rho e.2 [(9, 0), (9, 0), (0, e.1), (9, 0), (9, 0), (9, 0)] [])
set_option maxHeartbeats 4000000 in
set_option maxRecDepth 20000 in
theorem e_X11_changes_39 (σ : Mem)  {q : (Int × Mem)} (h : f_X11_changes_39 σ  = some q) : Ev M_X11_changes 218 218 (some (0, q.1), rho, q.2) 39 218 rho σ [(2, (181 : Int)), (9, 0), (9, 0), (9, 0), (9, 0), (9, 0)] [] := by
  unfold f_X11_changes_39 at h
  refine ev_aload_n dX11_changes_39 rfl (by decide) ?_
  refine ev_bipush dX11_changes_40 (by decide) (by decide) ?_
  obtain ⟨v5, hc6, h⟩ := bind_of h
  refine ev_invV_v (k := (181 : Int)) (av := [(0, (-55 : Int))]) (st := []) (v := (0, v5.1)) (τ := v5.2) dX11_changes_42 ml_X11_151 mv_X11_no (T := TX11) (ci := 10) rfl sp181 (by decide) (by decide) rfl ⟨Nat.le_of_ble_eq_true rfl, Nat.le_of_ble_eq_true rfl⟩ (Nat.le_of_ble_eq_true rfl) (c_X11_no hc6) ?_
  obtain rfl := Option.some.inj h
  dsimp only
  exact ev_iret dX11_changes_45 rfl rfl
set_option maxHeartbeats 4000000 in
set_option maxRecDepth 20000 in
theorem e_X11_changes_103 (σ : Mem) (x1 x2 x3 : Int)  {q : ((Int × Int × Mem) ⊕ ((Int × Mem)))} (h : f_X11_changes_103 σ x1 x2 x3 = some q) {r : Option V × Mem × Mem} (K : K_X11_changes_50 x1 r q) : Ev M_X11_changes 218 218 r 103 218 rho σ [(2, (181 : Int)), (0, x1), (0, x2), (0, x3), (9, 0), (9, 0)] [] := by
  unfold f_X11_changes_103 at h
  refine ev_iincG dX11_changes_103 rfl h rfl (fun v18 h => ?_)
  show Ev _ _ _ _ 106 _ _ _ [(2, (181 : Int)), (0, x1), (0, x2), (0, v18), (9, 0), (9, 0)] _
  refine ev_goto (tgt := 50) dX11_changes_106 rfl ?_
  obtain rfl := Option.some.inj h
  exact ev_sub (L2 := [(2, (181 : Int)), (0, x1), (0, x2), (0, v18), (9, 0), (9, 0)]) K ⟨.inr rfl, .inr rfl, .inr rfl, .inr rfl, .inl rfl, .inl rfl, trivial⟩
set_option maxHeartbeats 4000000 in
set_option maxRecDepth 20000 in
theorem b_X11_changes_50 (x1 : Int)  {r : Option V × Mem × Mem} : ∀ a x, f_X11_changes_50B x1 a = some x → K_X11_changes_50 x1 r x → K_X11_changes_50 x1 r (.inl a) := by
  intro a x h K
  obtain ⟨x2, x3, σ⟩ := a
  have h : f_X11_changes_50C x1 x2 x3 σ = some x := h
  unfold f_X11_changes_50C at h
  show Ev M_X11_changes 218 218 r 50 218 rho σ [(2, (181 : Int)), (0, x1), (0, x2), (0, x3), (9, 0), (9, 0)] []
  refine ev_iload_n dX11_changes_50 rfl ?_
  refine ev_iload_n dX11_changes_51 rfl ?_
  refine ev_icmp_ge (tgt := 109) dX11_changes_52 rfl h (fun cb h => ?_) (fun cb h => ?_)
  · obtain rfl := Option.some.inj h
    exact ev_sub (L2 := [(9, 0), (9, 0), (0, x2), (9, 0), (9, 0), (9, 0)]) K ⟨.inl rfl, .inl rfl, .inr rfl, .inl rfl, .inl rfl, .inl rfl, trivial⟩
  refine ev_aload_n dX11_changes_55 rfl (by decide) ?_
  refine ev_aload_n dX11_changes_56 rfl (by decide) ?_
  refine ev_getf (j := 0) (t := 2) (x := (182 : Int)) dX11_changes_57 cf_X11 wf_X11_7 sp181 (by decide) (by decide) rfl (by decide) (rp181_0 _) ?_
  refine ev_bipush dX11_changes_60 (by decide) (by decide) ?_
  refine ev_iald dX11_changes_62 sp182 (by decide) (by decide) h (fun h => ?_)
  obtain ⟨v7, hc8, h⟩ := bind_of h
  refine ev_invV_v (k := (181 : Int)) (av := [(0, (σ (182 : Int) (83 : Int)))]) (st := []) (v := (0, v7.1)) (τ := v7.2) dX11_changes_63 ml_X11_373 mv_X11_draw (T := TX11) (ci := 10) rfl sp181 (by decide) (by decide) rfl ⟨Nat.le_of_ble_eq_true rfl, Nat.le_of_ble_eq_true rfl⟩ (Nat.le_of_ble_eq_true rfl) (c_X11_draw hc8) ?_
  refine ev_istoreG dX11_changes_66 h rfl (by decide) (fun v9 h => ?_)
  show Ev _ _ _ _ 68 _ _ _ [(2, (181 : Int)), (0, x1), (0, x2), (0, x3), (0, v9), (9, 0)] _
  refine ev_aload_n dX11_changes_68 rfl (by decide) ?_
  refine ev_aload_n dX11_changes_69 rfl (by decide) ?_
  refine ev_getf (j := 0) (t := 2) (x := (182 : Int)) dX11_changes_70 cf_X11 wf_X11_7 sp181 (by decide) (by decide) rfl (by decide) (rp181_0 _) ?_
  refine ev_bipush dX11_changes_73 (by decide) (by decide) ?_
  show Ev _ _ _ _ 75 _ _ _ _ _
  refine ev_iald dX11_changes_75 sp182 (by decide) (by decide) h (fun h => ?_)
  obtain ⟨v10, hc11, h⟩ := bind_of h
  refine ev_invV_v (k := (181 : Int)) (av := [(0, (v7.2 (182 : Int) (82 : Int)))]) (st := []) (v := (0, v10.1)) (τ := v10.2) dX11_changes_76 ml_X11_373 mv_X11_draw (T := TX11) (ci := 10) rfl sp181 (by decide) (by decide) rfl ⟨Nat.le_of_ble_eq_true rfl, Nat.le_of_ble_eq_true rfl⟩ (Nat.le_of_ble_eq_true rfl) (c_X11_draw hc11) ?_
  refine ev_istoreG dX11_changes_79 h rfl (by decide) (fun v12 h => ?_)
  show Ev _ _ _ _ 81 _ _ _ [(2, (181 : Int)), (0, x1), (0, x2), (0, x3), (0, v9), (0, v12)] _
  refine ev_aload_n dX11_changes_81 rfl (by decide) ?_
  refine ev_iload dX11_changes_82 rfl ?_
  refine ev_iload dX11_changes_84 rfl ?_
  obtain ⟨v13, hc14, h⟩ := bind_of h
  refine ev_invV_v (k := (181 : Int)) (av := [(0, v9), (0, v12)]) (st := []) (v := (0, v13)) (τ := v10.2) dX11_changes_86 ml_X11_194 mv_X11_isFifth (T := TX11) (ci := 10) rfl sp181 (by decide) (by decide) rfl ⟨Nat.le_of_ble_eq_true rfl, Nat.le_of_ble_eq_true rfl⟩ (Nat.le_of_ble_eq_true rfl) (c_X11_isFifth hc14) ?_
  refine ev_if_ne (tgt := 103) dX11_changes_89 rfl h (fun cb h => ?_) (fun cb h => ?_)
  · exact ev_sub (L2 := [(2, (181 : Int)), (0, x1), (0, x2), (0, x3), (9, 0), (9, 0)]) (e_X11_changes_103 v10.2 x1 x2 x3 h K) ⟨.inr rfl, .inr rfl, .inr rfl, .inr rfl, .inl rfl, .inl rfl, trivial⟩
  refine ev_aload_n dX11_changes_92 rfl (by decide) ?_
  refine ev_iload dX11_changes_93 rfl ?_
  refine ev_iload dX11_changes_95 rfl ?_
  obtain ⟨σ15, hc16, h⟩ := bind_of h
  refine ev_invV_n (k := (181 : Int)) (av := [(0, v9), (0, v12)]) (st := []) (τ := σ15) dX11_changes_97 ml_X11_197 mv_X11_toggles (T := TX11) (ci := 10) rfl sp181 (by decide) (by decide) rfl ⟨Nat.le_of_ble_eq_true rfl, Nat.le_of_ble_eq_true rfl⟩ (Nat.le_of_ble_eq_true rfl) (c_X11_toggles hc16) ?_
  refine ev_iincG dX11_changes_100 rfl h rfl (fun v17 h => ?_)
  show Ev _ _ _ _ 103 _ _ _ [(2, (181 : Int)), (0, x1), (0, v17), (0, x3), (0, v9), (0, v12)] _
  exact ev_sub (L2 := [(2, (181 : Int)), (0, x1), (0, v17), (0, x3), (9, 0), (9, 0)]) (e_X11_changes_103 σ15 x1 v17 x3 h K) ⟨.inr rfl, .inr rfl, .inr rfl, .inr rfl, .inl rfl, .inl rfl, trivial⟩
set_option maxHeartbeats 4000000 in
set_option maxRecDepth 20000 in
theorem e_X11_changes_50 (σ : Mem) (x1 x2 x3 : Int)  {q : (Int × Mem)} (h : f_X11_changes_50 σ x1 x2 x3 = some q) : Ev M_X11_changes 218 218 (some (0, q.1), rho, q.2) 50 218 rho σ [(2, (181 : Int)), (0, x1), (0, x2), (0, x3), (9, 0), (9, 0)] [] := by
  unfold f_X11_changes_50 at h
  obtain ⟨e, hl, h⟩ := bind_of h
  refine loop_ev (K := K_X11_changes_50 x1 (some (0, q.1), rho, q.2)) (b_X11_changes_50 x1) FU (x2, x3, σ) e hl ?_
  show Ev M_X11_changes 218 218 _ 109 218 rho e.2 [(9, 0), (9, 0), (0, e.1), (9, 0), (9, 0), (9, 0)] []
  replace h : some (e.1, e.2) = some q := h
  refine ev_iload_n dX11_changes_109 rfl ?_
  obtain rfl := Option.some.inj h
  dsimp only
  exact ev_iret dX11_changes_110 rfl rfl
set_option maxHeartbeats 4000000 in
set_option maxRecDepth 20000 in
theorem c_X11_changes {σ : Mem} {x1 : Int}  {q : (Int × Mem)} (h : f_X11_changes σ x1 = some q) : Ms yX11_changes M_X11_changes 218 218 [(2, (181 : Int)), (0, x1)] rho σ (some (0, q.1), rho, q.2) := by
  refine Ms.of 4 (by decide +kernel) rfl (fun z => absurd z (by decide)) (fun _ _ _ => trivial) rfl rfl ?_
  unfold f_X11_changes at h
  show Ev M_X11_changes 218 218 _ 0 218 rho σ [(2, (181 : Int)), (0, x1), (9, 0), (9, 0), (9, 0), (9, 0)] []
  refine ev_iload_n dX11_changes_0 rfl ?_
  refine ev_i2lk dX11_changes_1 ?_
  refine ev_lconst (x := (1 : Int)) dX11_changes_2 (by decide) (by decide) ?_
  refine ev_ldc2 (x := (60 : Int)) dX11_changes_3 wc_X11_371 (by decide) (by decide) ?_
  obtain ⟨v1, hc2, h⟩ := bind_of h
  refine ev_invS_v (av := [(1, x1), (1, (1 : Int)), (1, (60 : Int))]) (st := []) (v := (0, v1)) (τ := σ) dX11_changes_6 ml_X11_120 mt_X11_isIn rfl ⟨Nat.le_of_ble_eq_true rfl, Nat.le_of_ble_eq_true rfl⟩ (Nat.le_of_ble_eq_true rfl) (c_X11_isIn hc2) ?_
  refine ev_if_ne (tgt := 19) dX11_changes_9 rfl h (fun cb h => ?_) (fun cb h => ?_)
  · refine ev_aload_n dX11_changes_19 rfl (by decide) ?_
    refine ev_getf (j := 0) (t := 2) (x := (182 : Int)) dX11_changes_20 cf_X11 wf_X11_7 sp181 (by decide) (by decide) rfl (by decide) (rp181_0 _) ?_
    refine ev_bipush dX11_changes_23 (by decide) (by decide) ?_
    refine ev_iald dX11_changes_25 sp182 (by decide) (by decide) h (fun h => ?_)
    refine ev_if_eq (tgt := 39) dX11_changes_26 rfl h (fun cb h => ?_) (fun cb h => ?_)
    · exact ev_sub (L2 := [(2, (181 : Int)), (9, 0), (9, 0), (9, 0), (9, 0), (9, 0)]) (e_X11_changes_39 σ h) ⟨.inr rfl, .inl rfl, .inl rfl, .inl rfl, .inl rfl, .inl rfl, trivial⟩
    refine ev_aload_n dX11_changes_29 rfl (by decide) ?_
    refine ev_getf (j := 0) (t := 2) (x := (182 : Int)) dX11_changes_30 cf_X11 wf_X11_7 sp181 (by decide) (by decide) rfl (by decide) (rp181_0 _) ?_
    refine ev_bipush dX11_changes_33 (by decide) (by decide) ?_
    refine ev_iald dX11_changes_35 sp182 (by decide) (by decide) h (fun h => ?_)
    refine ev_if_ne (tgt := 46) dX11_changes_36 rfl h (fun cb h => ?_) (fun cb h => ?_)
    · refine ev_iconst dX11_changes_46 (by decide) ?_
      refine ev_istore_n dX11_changes_47 rfl (by decide) ?_
      show Ev _ _ _ _ 48 _ _ _ [(2, (181 : Int)), (0, x1), (0, (0 : Int)), (9, 0), (9, 0), (9, 0)] _
      refine ev_iconst dX11_changes_48 (by decide) ?_
      refine ev_istore_n dX11_changes_49 rfl (by decide) ?_
      show Ev _ _ _ _ 50 _ _ _ [(2, (181 : Int)), (0, x1), (0, (0 : Int)), (0, (0 : Int)), (9, 0), (9, 0)] _
      exact ev_sub (L2 := [(2, (181 : Int)), (0, x1), (0, (0 : Int)), (0, (0 : Int)), (9, 0), (9, 0)]) (e_X11_changes_50 σ x1 (0 : Int) (0 : Int) h) ⟨.inr rfl, .inr rfl, .inr rfl, .inr rfl, .inl rfl, .inl rfl, trivial⟩
    exact ev_sub (L2 := [(2, (181 : Int)), (9, 0), (9, 0), (9, 0), (9, 0), (9, 0)]) (e_X11_changes_39 σ h) ⟨.inr rfl, .inl rfl, .inl rfl, .inl rfl, .inl rfl, .inl rfl, trivial⟩
  refine ev_aload_n dX11_changes_12 rfl (by decide) ?_
  refine ev_bipush dX11_changes_13 (by decide) (by decide) ?_
  obtain ⟨v3, hc4, h⟩ := bind_of h
  refine ev_invV_v (k := (181 : Int)) (av := [(0, (-52 : Int))]) (st := []) (v := (0, v3.1)) (τ := v3.2) dX11_changes_15 ml_X11_151 mv_X11_no (T := TX11) (ci := 10) rfl sp181 (by decide) (by decide) rfl ⟨Nat.le_of_ble_eq_true rfl, Nat.le_of_ble_eq_true rfl⟩ (Nat.le_of_ble_eq_true rfl) (c_X11_no hc4) ?_
  obtain rfl := Option.some.inj h
  dsimp only
  exact ev_iret dX11_changes_18 rfl rfl
set_option maxHeartbeats 4000000 in
set_option maxRecDepth 20000 in
theorem c_X11_seed {σ : Mem} {x1 : Int}  {q : (Int × Mem)} (h : f_X11_seed σ x1 = some q) : Ms yX11_seed M_X11_seed 218 218 [(2, (181 : Int)), (0, x1)] rho σ (some (0, q.1), rho, q.2) := by
  refine Ms.of 0 (by decide +kernel) rfl (fun z => absurd z (by decide)) (fun _ _ _ => trivial) rfl rfl ?_
  unfold f_X11_seed at h
  show Ev M_X11_seed 218 218 _ 0 218 rho σ [(2, (181 : Int)), (0, x1)] []
  refine ev_aload_n dX11_seed_0 rfl (by decide) ?_
  refine ev_bipush dX11_seed_1 (by decide) (by decide) ?_
  refine ev_iload_n dX11_seed_3 rfl ?_
  obtain ⟨v1, hc2, h⟩ := bind_of h
  refine ev_invV_v (k := (181 : Int)) (av := [(0, (87 : Int)), (0, x1)]) (st := []) (v := (0, v1.1)) (τ := v1.2) dX11_seed_4 ml_X11_177 mv_X11_becomes (T := TX11) (ci := 10) rfl sp181 (by decide) (by decide) rfl ⟨Nat.le_of_ble_eq_true rfl, Nat.le_of_ble_eq_true rfl⟩ (Nat.le_of_ble_eq_true rfl) (c_X11_becomes hc2) ?_
  obtain rfl := Option.some.inj h
  dsimp only
  exact ev_iret dX11_seed_7 rfl rfl
set_option maxHeartbeats 4000000 in
set_option maxRecDepth 20000 in
theorem c_X11_image {σ : Mem}  {q : (Int × Mem)} (h : f_X11_image σ  = some q) : Ms yX11_image M_X11_image 218 218 [(2, (181 : Int))] rho σ (some (0, q.1), rho, q.2) := by
  refine Ms.of 0 (by decide +kernel) rfl (fun z => absurd z (by decide)) (fun _ _ _ => trivial) rfl rfl ?_
  unfold f_X11_image at h
  show Ev M_X11_image 218 218 _ 0 218 rho σ [(2, (181 : Int))] []
  refine ev_aload_n dX11_image_0 rfl (by decide) ?_
  refine ev_getf (j := 0) (t := 2) (x := (182 : Int)) dX11_image_1 cf_X11 wf_X11_7 sp181 (by decide) (by decide) rfl (by decide) (rp181_0 _) ?_
  refine ev_aload_n dX11_image_4 rfl (by decide) ?_
  refine ev_getf (j := 1) (t := 2) (x := (183 : Int)) dX11_image_5 cf_X11 wf_X11_13 sp181 (by decide) (by decide) rfl (by decide) (rp181_1 _) ?_
  obtain ⟨σ1, hc2, h⟩ := bind_of h
  refine ev_invS_n (av := [(2, (182 : Int)), (2, (183 : Int))]) (st := []) (τ := σ1) dX11_image_8 ml_X11_245 mt_X11_move rfl ⟨Nat.le_of_ble_eq_true rfl, Nat.le_of_ble_eq_true rfl⟩ (Nat.le_of_ble_eq_true rfl) (c_X11_move hM182 hM183 hc2) ?_
  refine ev_aload_n dX11_image_11 rfl (by decide) ?_
  refine ev_iconst dX11_image_12 (by decide) ?_
  refine ev_putfG (j := 2) (t := 0) dX11_image_13 cf_X11 wf_X11_376 sp181 (by decide) (by decide) rfl (by decide) (by decide) rfl (fun _ => .inr rfl) h (fun σ3 h => ?_)
  refine ev_iconst dX11_image_16 (by decide) ?_
  obtain rfl := Option.some.inj h
  dsimp only
  exact ev_iret dX11_image_17 rfl rfl
def K_X11_back_27 (r : Option V × Mem × Mem) : (Int × Mem) ⊕ ((Mem)) → Prop := Sum.elim (fun a => Ev M_X11_back 218 218 r 27 218 rho a.2 [(2, (181 : Int)), (0, a.1)] []) (fun e => Ev M_X11_back 218 218 r 74 218 rho e [(9, 0), (9, 0)] [])
set_option maxHeartbeats 4000000 in
set_option maxRecDepth 20000 in
theorem e_X11_back_67 (σ : Mem) (x1 s2 s1 : Int)  {q : ((Int × Mem) ⊕ ((Mem)))} (h : f_X11_back_67 σ x1 s2 s1 = some q) {r : Option V × Mem × Mem} (K : K_X11_back_27  r q) : Ev M_X11_back 218 218 r 67 218 rho σ [(2, (181 : Int)), (0, x1)] [(0, s2), (0, s1), (2, (185 : Int))] := by
  unfold f_X11_back_67 at h
  refine ev_iastG dX11_back_67 sp185 (by decide) (by decide) h (fun σ5 h => ?_)
  refine ev_iincG dX11_back_68 rfl h rfl (fun v6 h => ?_)
  show Ev _ _ _ _ 71 _ _ _ [(2, (181 : Int)), (0, v6)] _
  refine ev_goto (tgt := 27) dX11_back_71 rfl ?_
  obtain rfl := Option.some.inj h
  exact ev_sub (L2 := [(2, (181 : Int)), (0, v6)]) K ⟨.inr rfl, .inr rfl, trivial⟩
set_option maxHeartbeats 4000000 in
set_option maxRecDepth 20000 in
theorem b_X11_back_27  {r : Option V × Mem × Mem} : ∀ a x, f_X11_back_27B  a = some x → K_X11_back_27  r x → K_X11_back_27  r (.inl a) := by
  intro a x h K
  obtain ⟨x1, σ⟩ := a
  have h : f_X11_back_27C  x1 σ = some x := h
  unfold f_X11_back_27C at h
  show Ev M_X11_back 218 218 r 27 218 rho σ [(2, (181 : Int)), (0, x1)] []
  refine ev_iload_n dX11_back_27 rfl ?_
  refine ev_bipush dX11_back_28 (by decide) (by decide) ?_
  refine ev_icmp_ge (tgt := 74) dX11_back_30 rfl h (fun cb h => ?_) (fun cb h => ?_)
  · obtain rfl := Option.some.inj h
    exact ev_sub (L2 := [(9, 0), (9, 0)]) K ⟨.inl rfl, .inl rfl, trivial⟩
  refine ev_aload_n dX11_back_33 rfl (by decide) ?_
  refine ev_getf (j := 4) (t := 2) (x := (185 : Int)) dX11_back_34 cf_X11 wf_X11_19 sp181 (by decide) (by decide) rfl (by decide) (rp181_4 _) ?_
  refine ev_iload_n dX11_back_37 rfl ?_
  refine ev_aload_n dX11_back_38 rfl (by decide) ?_
  refine ev_getf (j := 4) (t := 2) (x := (185 : Int)) dX11_back_39 cf_X11 wf_X11_19 sp181 (by decide) (by decide) rfl (by decide) (rp181_4 _) ?_
  refine ev_iload_n dX11_back_42 rfl ?_
  refine ev_iald dX11_back_43 sp185 (by decide) (by decide) h (fun h => ?_)
  refine ev_bipush dX11_back_44 (by decide) (by decide) ?_
  refine ev_aload_n dX11_back_46 rfl (by decide) ?_
  refine ev_getf (j := 0) (t := 2) (x := (182 : Int)) dX11_back_47 cf_X11 wf_X11_7 sp181 (by decide) (by decide) rfl (by decide) (rp181_0 _) ?_
  refine ev_bipush dX11_back_50 (by decide) (by decide) ?_
  show Ev _ _ _ _ 52 _ _ _ _ _
  refine ev_iald dX11_back_52 sp182 (by decide) (by decide) h (fun h => ?_)
  refine ev_iadd dX11_back_53 ?_
  refine ev_icmp_lt (tgt := 61) dX11_back_54 rfl h (fun cb h => ?_) (fun cb h => ?_)
  · refine ev_aload_n dX11_back_61 rfl (by decide) ?_
    refine ev_getf (j := 4) (t := 2) (x := (185 : Int)) dX11_back_62 cf_X11 wf_X11_19 sp181 (by decide) (by decide) rfl (by decide) (rp181_4 _) ?_
    refine ev_iload_n dX11_back_65 rfl ?_
    refine ev_iald dX11_back_66 sp185 (by decide) (by decide) h (fun h => ?_)
    exact ev_sub (L2 := [(2, (181 : Int)), (0, x1)]) (e_X11_back_67 σ x1 (σ (185 : Int) x1) x1 h K) ⟨.inr rfl, .inr rfl, trivial⟩
  refine ev_iconst dX11_back_57 (by decide) ?_
  refine ev_goto (tgt := 67) dX11_back_58 rfl ?_
  exact ev_sub (L2 := [(2, (181 : Int)), (0, x1)]) (e_X11_back_67 σ x1 (-1 : Int) x1 h K) ⟨.inr rfl, .inr rfl, trivial⟩
set_option maxHeartbeats 4000000 in
set_option maxRecDepth 20000 in
theorem e_X11_back_27 (σ : Mem) (x1 : Int)  {q : (Int × Mem)} (h : f_X11_back_27 σ x1 = some q) : Ev M_X11_back 218 218 (some (0, q.1), rho, q.2) 27 218 rho σ [(2, (181 : Int)), (0, x1)] [] := by
  unfold f_X11_back_27 at h
  obtain ⟨e, hl, h⟩ := bind_of h
  refine loop_ev (K := K_X11_back_27  (some (0, q.1), rho, q.2)) (b_X11_back_27 ) FU (x1, σ) e hl ?_
  show Ev M_X11_back 218 218 _ 74 218 rho e [(9, 0), (9, 0)] []
  replace h : some ((1 : Int), e) = some q := h
  refine ev_iconst dX11_back_74 (by decide) ?_
  obtain rfl := Option.some.inj h
  dsimp only
  exact ev_iret dX11_back_75 rfl rfl
set_option maxHeartbeats 4000000 in
set_option maxRecDepth 20000 in
theorem c_X11_back {σ : Mem}  {q : (Int × Mem)} (h : f_X11_back σ  = some q) : Ms yX11_back M_X11_back 218 218 [(2, (181 : Int))] rho σ (some (0, q.1), rho, q.2) := by
  refine Ms.of 1 (by decide +kernel) rfl (fun z => absurd z (by decide)) (fun _ _ _ => trivial) rfl rfl ?_
  unfold f_X11_back at h
  show Ev M_X11_back 218 218 _ 0 218 rho σ [(2, (181 : Int)), (9, 0)] []
  refine ev_aload_n dX11_back_0 rfl (by decide) ?_
  refine ev_getf (j := 2) (t := 0) (x := (σ (181 : Int) 2)) dX11_back_1 cf_X11 wf_X11_376 sp181 (by decide) (by decide) rfl (by decide) rfl ?_
  refine ev_if_ne (tgt := 14) dX11_back_4 rfl h (fun cb h => ?_) (fun cb h => ?_)
  · refine ev_aload_n dX11_back_14 rfl (by decide) ?_
    refine ev_getf (j := 1) (t := 2) (x := (183 : Int)) dX11_back_15 cf_X11 wf_X11_13 sp181 (by decide) (by decide) rfl (by decide) (rp181_1 _) ?_
    refine ev_aload_n dX11_back_18 rfl (by decide) ?_
    refine ev_getf (j := 0) (t := 2) (x := (182 : Int)) dX11_back_19 cf_X11 wf_X11_7 sp181 (by decide) (by decide) rfl (by decide) (rp181_0 _) ?_
    obtain ⟨σ1, hc2, h⟩ := bind_of h
    refine ev_invS_n (av := [(2, (183 : Int)), (2, (182 : Int))]) (st := []) (τ := σ1) dX11_back_22 ml_X11_245 mt_X11_move rfl ⟨Nat.le_of_ble_eq_true rfl, Nat.le_of_ble_eq_true rfl⟩ (Nat.le_of_ble_eq_true rfl) (c_X11_move hM183 hM182 hc2) ?_
    refine ev_iconst dX11_back_25 (by decide) ?_
    refine ev_istore_n dX11_back_26 rfl (by decide) ?_
    show Ev _ _ _ _ 27 _ _ _ [(2, (181 : Int)), (0, (0 : Int))] _
    exact ev_sub (L2 := [(2, (181 : Int)), (0, (0 : Int))]) (e_X11_back_27 σ1 (0 : Int) h) ⟨.inr rfl, .inr rfl, trivial⟩
  refine ev_aload_n dX11_back_7 rfl (by decide) ?_
  refine ev_bipush dX11_back_8 (by decide) (by decide) ?_
  obtain ⟨v3, hc4, h⟩ := bind_of h
  refine ev_invV_v (k := (181 : Int)) (av := [(0, (-55 : Int))]) (st := []) (v := (0, v3.1)) (τ := v3.2) dX11_back_10 ml_X11_151 mv_X11_no (T := TX11) (ci := 10) rfl sp181 (by decide) (by decide) rfl ⟨Nat.le_of_ble_eq_true rfl, Nat.le_of_ble_eq_true rfl⟩ (Nat.le_of_ble_eq_true rfl) (c_X11_no hc4) ?_
  obtain rfl := Option.some.inj h
  dsimp only
  exact ev_iret dX11_back_13 rfl rfl
def K_X11_taken_4 (σ : Mem) (r : Option V × Mem × Mem) : (Int × Int) ⊕ ((Int)) → Prop := Sum.elim (fun a => Ev M_X11_taken 218 218 r 4 218 rho σ [(2, (181 : Int)), (0, a.1), (0, a.2)] []) (fun e => Ev M_X11_taken 218 218 r 33 218 rho σ [(9, 0), (0, e), (9, 0)] [])
set_option maxHeartbeats 4000000 in
set_option maxRecDepth 20000 in
theorem b_X11_taken_4 (σ : Mem)  {r : Option V × Mem × Mem} : ∀ a x, f_X11_taken_4B σ a = some x → K_X11_taken_4 σ r x → K_X11_taken_4 σ r (.inl a) := by
  intro a x h K
  obtain ⟨x1, x2⟩ := a
  have h : f_X11_taken_4C σ x1 x2 = some x := h
  unfold f_X11_taken_4C at h
  show Ev M_X11_taken 218 218 r 4 218 rho σ [(2, (181 : Int)), (0, x1), (0, x2)] []
  refine ev_iload_n dX11_taken_4 rfl ?_
  refine ev_aload_n dX11_taken_5 rfl (by decide) ?_
  refine ev_getf (j := 0) (t := 2) (x := (182 : Int)) dX11_taken_6 cf_X11 wf_X11_7 sp181 (by decide) (by decide) rfl (by decide) (rp181_0 _) ?_
  refine ev_bipush dX11_taken_9 (by decide) (by decide) ?_
  refine ev_iald dX11_taken_11 sp182 (by decide) (by decide) h (fun h => ?_)
  refine ev_icmp_ge (tgt := 33) dX11_taken_12 rfl h (fun cb h => ?_) (fun cb h => ?_)
  · obtain rfl := Option.some.inj h
    exact ev_sub (L2 := [(9, 0), (0, x1), (9, 0)]) K ⟨.inl rfl, .inr rfl, .inl rfl, trivial⟩
  refine ev_iload_n dX11_taken_15 rfl ?_
  refine ev_aload_n dX11_taken_16 rfl (by decide) ?_
  refine ev_iload_n dX11_taken_17 rfl ?_
  refine ev_iconst dX11_taken_18 (by decide) ?_
  obtain ⟨v1, hc2, h⟩ := bind_of h
  refine ev_invV_v (k := (181 : Int)) (av := [(0, x2), (0, (3 : Int))]) (st := [(0, x1)]) (v := (0, v1)) (τ := σ) dX11_taken_19 ml_X11_128 mv_X11_who (T := TX11) (ci := 10) rfl sp181 (by decide) (by decide) rfl ⟨Nat.le_of_ble_eq_true rfl, Nat.le_of_ble_eq_true rfl⟩ (Nat.le_of_ble_eq_true rfl) (c_X11_who hc2) ?_
  obtain ⟨v3, hc4, h⟩ := bind_of h
  refine ev_invS_v (av := [(0, v1)]) (st := [(0, x1)]) (v := (0, v3)) (τ := σ) dX11_taken_22 ml_X11_191 mt_X11_many rfl ⟨Nat.le_of_ble_eq_true rfl, Nat.le_of_ble_eq_true rfl⟩ (Nat.le_of_ble_eq_true rfl) (c_X11_many hc4) ?_
  refine ev_iadd dX11_taken_25 ?_
  refine ev_istore_nG dX11_taken_26 h rfl (by decide) (fun v5 h => ?_)
  show Ev _ _ _ _ 27 _ _ _ [(2, (181 : Int)), (0, v5), (0, x2)] _
  refine ev_iincG dX11_taken_27 rfl h rfl (fun v6 h => ?_)
  show Ev _ _ _ _ 30 _ _ _ [(2, (181 : Int)), (0, v5), (0, v6)] _
  refine ev_goto (tgt := 4) dX11_taken_30 rfl ?_
  obtain rfl := Option.some.inj h
  exact ev_sub (L2 := [(2, (181 : Int)), (0, v5), (0, v6)]) K ⟨.inr rfl, .inr rfl, .inr rfl, trivial⟩
set_option maxHeartbeats 4000000 in
set_option maxRecDepth 20000 in
theorem e_X11_taken_4 (σ : Mem) (x1 x2 : Int)  {q : Int} (h : f_X11_taken_4 σ x1 x2 = some q) : Ev M_X11_taken 218 218 (some (0, q), rho, σ) 4 218 rho σ [(2, (181 : Int)), (0, x1), (0, x2)] [] := by
  unfold f_X11_taken_4 at h
  obtain ⟨e, hl, h⟩ := bind_of h
  refine loop_ev (K := K_X11_taken_4 σ (some (0, q), rho, σ)) (b_X11_taken_4 σ) FU (x1, x2) e hl ?_
  show Ev M_X11_taken 218 218 _ 33 218 rho σ [(9, 0), (0, e), (9, 0)] []
  replace h : some e = some q := h
  refine ev_iload_n dX11_taken_33 rfl ?_
  obtain rfl := Option.some.inj h
  exact ev_iret dX11_taken_34 rfl rfl
set_option maxHeartbeats 4000000 in
set_option maxRecDepth 20000 in
theorem c_X11_taken {σ : Mem}  {q : Int} (h : f_X11_taken σ  = some q) : Ms yX11_taken M_X11_taken 218 218 [(2, (181 : Int))] rho σ (some (0, q), rho, σ) := by
  refine Ms.of 2 (by decide +kernel) rfl (fun z => absurd z (by decide)) (fun _ _ _ => trivial) rfl rfl ?_
  unfold f_X11_taken at h
  show Ev M_X11_taken 218 218 _ 0 218 rho σ [(2, (181 : Int)), (9, 0), (9, 0)] []
  refine ev_iconst dX11_taken_0 (by decide) ?_
  refine ev_istore_n dX11_taken_1 rfl (by decide) ?_
  show Ev _ _ _ _ 2 _ _ _ [(2, (181 : Int)), (0, (0 : Int)), (9, 0)] _
  refine ev_iconst dX11_taken_2 (by decide) ?_
  refine ev_istore_n dX11_taken_3 rfl (by decide) ?_
  show Ev _ _ _ _ 4 _ _ _ [(2, (181 : Int)), (0, (0 : Int)), (0, (0 : Int))] _
  exact ev_sub (L2 := [(2, (181 : Int)), (0, (0 : Int)), (0, (0 : Int))]) (e_X11_taken_4 σ (0 : Int) (0 : Int) h) ⟨.inr rfl, .inr rfl, .inr rfl, trivial⟩
def K_X11_badDays_22 (σ : Mem) (x2 : Int) (r : Option V × Mem × Mem) : (Int × Int) ⊕ ((Int)) → Prop := Sum.elim (fun a => Ev M_X11_badDays 218 218 r 22 218 rho σ [(2, (181 : Int)), (0, a.1), (0, x2), (0, a.2)] []) (fun e => Ev M_X11_badDays 218 218 r 52 218 rho σ [(2, (181 : Int)), (0, e), (0, x2), (9, 0)] [])
def K_X11_badDays_4 (r : Option V × Mem × Mem) : (Int × Int × Mem) ⊕ ((Int × Mem)) → Prop := Sum.elim (fun a => Ev M_X11_badDays 218 218 r 4 218 rho a.2.2 [(2, (181 : Int)), (0, a.1), (0, a.2.1), (9, 0)] []) (fun e => Ev M_X11_badDays 218 218 r 58 218 rho e.2 [(9, 0), (0, e.1), (9, 0), (9, 0)] [])
set_option maxHeartbeats 4000000 in
set_option maxRecDepth 20000 in
theorem e_X11_badDays_44 (σ : Mem) (x2 x3 s1 s0 : Int)  {q : ((Int × Int) ⊕ ((Int)))} (h : f_X11_badDays_44 σ x2 x3 s1 s0 = some q) {r : Option V × Mem × Mem} (K : K_X11_badDays_22 σ x2 r q) : Ev M_X11_badDays 218 218 r 44 218 rho σ [(2, (181 : Int)), (9, 0), (0, x2), (0, x3)] [(0, s1), (0, s0)] := by
  unfold f_X11_badDays_44 at h
  refine ev_ior dX11_badDays_44 ?_
  refine ev_istore_nG dX11_badDays_45 h rfl (by decide) (fun v5 h => ?_)
  show Ev _ _ _ _ 46 _ _ _ [(2, (181 : Int)), (0, v5), (0, x2), (0, x3)] _
  refine ev_iincG dX11_badDays_46 rfl h rfl (fun v6 h => ?_)
  show Ev _ _ _ _ 49 _ _ _ [(2, (181 : Int)), (0, v5), (0, x2), (0, v6)] _
  refine ev_goto (tgt := 22) dX11_badDays_49 rfl ?_
  obtain rfl := Option.some.inj h
  exact ev_sub (L2 := [(2, (181 : Int)), (0, v5), (0, x2), (0, v6)]) K ⟨.inr rfl, .inr rfl, .inr rfl, .inr rfl, trivial⟩
set_option maxHeartbeats 4000000 in
set_option maxRecDepth 20000 in
theorem e_X11_badDays_52 (σ : Mem) (x1 x2 : Int)  {q : ((Int × Int × Mem) ⊕ ((Int × Mem)))} (h : f_X11_badDays_52 σ x1 x2 = some q) {r : Option V × Mem × Mem} (K : K_X11_badDays_4  r q) : Ev M_X11_badDays 218 218 r 52 218 rho σ [(2, (181 : Int)), (0, x1), (0, x2), (9, 0)] [] := by
  unfold f_X11_badDays_52 at h
  refine ev_iincG dX11_badDays_52 rfl h rfl (fun v7 h => ?_)
  show Ev _ _ _ _ 55 _ _ _ [(2, (181 : Int)), (0, x1), (0, v7), (9, 0)] _
  refine ev_goto (tgt := 4) dX11_badDays_55 rfl ?_
  obtain rfl := Option.some.inj h
  exact ev_sub (L2 := [(2, (181 : Int)), (0, x1), (0, v7), (9, 0)]) K ⟨.inr rfl, .inr rfl, .inr rfl, .inl rfl, trivial⟩
set_option maxHeartbeats 4000000 in
set_option maxRecDepth 20000 in
theorem b_X11_badDays_22 (σ : Mem) (x2 : Int)  {r : Option V × Mem × Mem} : ∀ a x, f_X11_badDays_22B σ x2 a = some x → K_X11_badDays_22 σ x2 r x → K_X11_badDays_22 σ x2 r (.inl a) := by
  intro a x h K
  obtain ⟨x1, x3⟩ := a
  have h : f_X11_badDays_22C σ x2 x1 x3 = some x := h
  unfold f_X11_badDays_22C at h
  show Ev M_X11_badDays 218 218 r 22 218 rho σ [(2, (181 : Int)), (0, x1), (0, x2), (0, x3)] []
  refine ev_iload_n dX11_badDays_22 rfl ?_
  refine ev_iconst dX11_badDays_23 (by decide) ?_
  refine ev_icmp_ge (tgt := 52) dX11_badDays_24 rfl h (fun cb h => ?_) (fun cb h => ?_)
  · obtain rfl := Option.some.inj h
    exact ev_sub (L2 := [(2, (181 : Int)), (0, x1), (0, x2), (9, 0)]) K ⟨.inr rfl, .inr rfl, .inr rfl, .inl rfl, trivial⟩
  refine ev_iload_n dX11_badDays_27 rfl ?_
  refine ev_aload_n dX11_badDays_28 rfl (by decide) ?_
  refine ev_getf (j := 19) (t := 2) (x := (195 : Int)) dX11_badDays_29 cf_X11 wf_X11_51 sp181 (by decide) (by decide) rfl (by decide) (rp181_19 _) ?_
  refine ev_iload_n dX11_badDays_32 rfl ?_
  refine ev_iald dX11_badDays_33 sp195 (by decide) (by decide) h (fun h => ?_)
  refine ev_if_ne (tgt := 43) dX11_badDays_34 rfl h (fun cb h => ?_) (fun cb h => ?_)
  · refine ev_iconst dX11_badDays_43 (by decide) ?_
    exact ev_sub (L2 := [(2, (181 : Int)), (9, 0), (0, x2), (0, x3)]) (e_X11_badDays_44 σ x2 x3 (0 : Int) x1 h K) ⟨.inr rfl, .inl rfl, .inr rfl, .inr rfl, trivial⟩
  refine ev_iconst dX11_badDays_37 (by decide) ?_
  refine ev_iload_n dX11_badDays_38 rfl ?_
  refine ev_ishl dX11_badDays_39 ?_
  refine ev_goto (tgt := 44) dX11_badDays_40 rfl ?_
  exact ev_sub (L2 := [(2, (181 : Int)), (9, 0), (0, x2), (0, x3)]) (e_X11_badDays_44 σ x2 x3 (jshl (1 : Int) x3) x1 h K) ⟨.inr rfl, .inl rfl, .inr rfl, .inr rfl, trivial⟩
set_option maxHeartbeats 4000000 in
set_option maxRecDepth 20000 in
theorem e_X11_badDays_22 (σ : Mem) (x1 x2 x3 : Int)  {q : ((Int × Int × Mem) ⊕ ((Int × Mem)))} (h : f_X11_badDays_22 σ x1 x2 x3 = some q) {r : Option V × Mem × Mem} (K : K_X11_badDays_4  r q) : Ev M_X11_badDays 218 218 r 22 218 rho σ [(2, (181 : Int)), (0, x1), (0, x2), (0, x3)] [] := by
  unfold f_X11_badDays_22 at h
  obtain ⟨e, hl, h⟩ := bind_of h
  refine loop_ev (K := K_X11_badDays_22 σ x2 r) (b_X11_badDays_22 σ x2) FU (x1, x3) e hl ?_
  show Ev M_X11_badDays 218 218 r 52 218 rho σ [(2, (181 : Int)), (0, e), (0, x2), (9, 0)] []
  replace h : f_X11_badDays_52 σ e x2 = some q := h
  exact ev_sub (L2 := [(2, (181 : Int)), (0, e), (0, x2), (9, 0)]) (e_X11_badDays_52 σ e x2 h K) ⟨.inr rfl, .inr rfl, .inr rfl, .inl rfl, trivial⟩
set_option maxHeartbeats 4000000 in
set_option maxRecDepth 20000 in
theorem e_X11_badDays_58 (σ : Mem) (x1 : Int)  {q : (Int × Mem)} (h : f_X11_badDays_58 σ x1 = some q) : Ev M_X11_badDays 218 218 (some (0, q.1), rho, q.2) 58 218 rho σ [(9, 0), (0, x1), (9, 0), (9, 0)] [] := by
  unfold f_X11_badDays_58 at h
  refine ev_iload_n dX11_badDays_58 rfl ?_
  obtain ⟨v3, hc4, h⟩ := bind_of h
  refine ev_invS_v (av := [(0, x1)]) (st := []) (v := (0, v3)) (τ := σ) dX11_badDays_59 ml_X11_191 mt_X11_many rfl ⟨Nat.le_of_ble_eq_true rfl, Nat.le_of_ble_eq_true rfl⟩ (Nat.le_of_ble_eq_true rfl) (c_X11_many hc4) ?_
  obtain rfl := Option.some.inj h
  dsimp only
  exact ev_iret dX11_badDays_62 rfl rfl
set_option maxHeartbeats 4000000 in
set_option maxRecDepth 20000 in
theorem b_X11_badDays_4  {r : Option V × Mem × Mem} : ∀ a x, f_X11_badDays_4B  a = some x → K_X11_badDays_4  r x → K_X11_badDays_4  r (.inl a) := by
  intro a x h K
  obtain ⟨x1, x2, σ⟩ := a
  have h : f_X11_badDays_4C  x1 x2 σ = some x := h
  unfold f_X11_badDays_4C at h
  show Ev M_X11_badDays 218 218 r 4 218 rho σ [(2, (181 : Int)), (0, x1), (0, x2), (9, 0)] []
  refine ev_iload_n dX11_badDays_4 rfl ?_
  refine ev_aload_n dX11_badDays_5 rfl (by decide) ?_
  refine ev_getf (j := 0) (t := 2) (x := (182 : Int)) dX11_badDays_6 cf_X11 wf_X11_7 sp181 (by decide) (by decide) rfl (by decide) (rp181_0 _) ?_
  refine ev_bipush dX11_badDays_9 (by decide) (by decide) ?_
  refine ev_iald dX11_badDays_11 sp182 (by decide) (by decide) h (fun h => ?_)
  refine ev_icmp_ge (tgt := 58) dX11_badDays_12 rfl h (fun cb h => ?_) (fun cb h => ?_)
  · obtain rfl := Option.some.inj h
    exact ev_sub (L2 := [(9, 0), (0, x1), (9, 0), (9, 0)]) K ⟨.inl rfl, .inr rfl, .inl rfl, .inl rfl, trivial⟩
  refine ev_aload_n dX11_badDays_15 rfl (by decide) ?_
  refine ev_iload_n dX11_badDays_16 rfl ?_
  obtain ⟨σ1, hc2, h⟩ := bind_of h
  refine ev_invV_n (k := (181 : Int)) (av := [(0, x2)]) (st := []) (τ := σ1) dX11_badDays_17 ml_X11_290 mv_X11_plans (T := TX11) (ci := 10) rfl sp181 (by decide) (by decide) rfl ⟨Nat.le_of_ble_eq_true rfl, Nat.le_of_ble_eq_true rfl⟩ (Nat.le_of_ble_eq_true rfl) (c_X11_plans hc2) ?_
  refine ev_iconst dX11_badDays_20 (by decide) ?_
  refine ev_istore_n dX11_badDays_21 rfl (by decide) ?_
  show Ev _ _ _ _ 22 _ _ _ [(2, (181 : Int)), (0, x1), (0, x2), (0, (0 : Int))] _
  exact ev_sub (L2 := [(2, (181 : Int)), (0, x1), (0, x2), (0, (0 : Int))]) (e_X11_badDays_22 σ1 x1 x2 (0 : Int) h K) ⟨.inr rfl, .inr rfl, .inr rfl, .inr rfl, trivial⟩
set_option maxHeartbeats 4000000 in
set_option maxRecDepth 20000 in
theorem e_X11_badDays_4 (σ : Mem) (x1 x2 : Int)  {q : (Int × Mem)} (h : f_X11_badDays_4 σ x1 x2 = some q) : Ev M_X11_badDays 218 218 (some (0, q.1), rho, q.2) 4 218 rho σ [(2, (181 : Int)), (0, x1), (0, x2), (9, 0)] [] := by
  unfold f_X11_badDays_4 at h
  obtain ⟨e, hl, h⟩ := bind_of h
  refine loop_ev (K := K_X11_badDays_4  (some (0, q.1), rho, q.2)) (b_X11_badDays_4 ) FU (x1, x2, σ) e hl ?_
  show Ev M_X11_badDays 218 218 _ 58 218 rho e.2 [(9, 0), (0, e.1), (9, 0), (9, 0)] []
  replace h : f_X11_badDays_58 e.2 e.1 = some q := h
  exact ev_sub (L2 := [(9, 0), (0, e.1), (9, 0), (9, 0)]) (e_X11_badDays_58 e.2 e.1 h) ⟨.inl rfl, .inr rfl, .inl rfl, .inl rfl, trivial⟩
set_option maxHeartbeats 4000000 in
set_option maxRecDepth 20000 in
theorem c_X11_badDays {σ : Mem}  {q : (Int × Mem)} (h : f_X11_badDays σ  = some q) : Ms yX11_badDays M_X11_badDays 218 218 [(2, (181 : Int))] rho σ (some (0, q.1), rho, q.2) := by
  refine Ms.of 3 (by decide +kernel) rfl (fun z => absurd z (by decide)) (fun _ _ _ => trivial) rfl rfl ?_
  unfold f_X11_badDays at h
  show Ev M_X11_badDays 218 218 _ 0 218 rho σ [(2, (181 : Int)), (9, 0), (9, 0), (9, 0)] []
  refine ev_iconst dX11_badDays_0 (by decide) ?_
  refine ev_istore_n dX11_badDays_1 rfl (by decide) ?_
  show Ev _ _ _ _ 2 _ _ _ [(2, (181 : Int)), (0, (0 : Int)), (9, 0), (9, 0)] _
  refine ev_iconst dX11_badDays_2 (by decide) ?_
  refine ev_istore_n dX11_badDays_3 rfl (by decide) ?_
  show Ev _ _ _ _ 4 _ _ _ [(2, (181 : Int)), (0, (0 : Int)), (0, (0 : Int)), (9, 0)] _
  exact ev_sub (L2 := [(2, (181 : Int)), (0, (0 : Int)), (0, (0 : Int)), (9, 0)]) (e_X11_badDays_4 σ (0 : Int) (0 : Int) h) ⟨.inr rfl, .inr rfl, .inr rfl, .inl rfl, trivial⟩
def K_X11_status_123 (σ : Mem) (r : Option V × Mem × Mem) : (Int × Int) ⊕ ((Int)) → Prop := Sum.elim (fun a => Ev M_X11_status 218 218 r 123 218 rho σ [(2, (181 : Int)), (9, 0), (0, a.1), (0, a.2)] []) (fun e => Ev M_X11_status 218 218 r 152 218 rho σ [(9, 0), (9, 0), (0, e), (9, 0)] [])
set_option maxHeartbeats 4000000 in
set_option maxRecDepth 20000 in
theorem e_X11_status_144 (σ : Mem) (x3 s1 s0 : Int)  {q : ((Int × Int) ⊕ ((Int)))} (h : f_X11_status_144 σ x3 s1 s0 = some q) {r : Option V × Mem × Mem} (K : K_X11_status_123 σ r q) : Ev M_X11_status 218 218 r 144 218 rho σ [(2, (181 : Int)), (9, 0), (9, 0), (0, x3)] [(0, s1), (0, s0)] := by
  unfold f_X11_status_144 at h
  refine ev_iadd dX11_status_144 ?_
  refine ev_istore_nG dX11_status_145 h rfl (by decide) (fun v7 h => ?_)
  show Ev _ _ _ _ 146 _ _ _ [(2, (181 : Int)), (9, 0), (0, v7), (0, x3)] _
  refine ev_iincG dX11_status_146 rfl h rfl (fun v8 h => ?_)
  show Ev _ _ _ _ 149 _ _ _ [(2, (181 : Int)), (9, 0), (0, v7), (0, v8)] _
  refine ev_goto (tgt := 123) dX11_status_149 rfl ?_
  obtain rfl := Option.some.inj h
  exact ev_sub (L2 := [(2, (181 : Int)), (9, 0), (0, v7), (0, v8)]) K ⟨.inr rfl, .inl rfl, .inr rfl, .inr rfl, trivial⟩
set_option maxHeartbeats 4000000 in
set_option maxRecDepth 20000 in
theorem b_X11_status_123 (σ : Mem)  {r : Option V × Mem × Mem} : ∀ a x, f_X11_status_123B σ a = some x → K_X11_status_123 σ r x → K_X11_status_123 σ r (.inl a) := by
  intro a x h K
  obtain ⟨x2, x3⟩ := a
  have h : f_X11_status_123C σ x2 x3 = some x := h
  unfold f_X11_status_123C at h
  show Ev M_X11_status 218 218 r 123 218 rho σ [(2, (181 : Int)), (9, 0), (0, x2), (0, x3)] []
  refine ev_iload_n dX11_status_123 rfl ?_
  refine ev_bipush dX11_status_124 (by decide) (by decide) ?_
  refine ev_icmp_ge (tgt := 152) dX11_status_126 rfl h (fun cb h => ?_) (fun cb h => ?_)
  · obtain rfl := Option.some.inj h
    exact ev_sub (L2 := [(9, 0), (9, 0), (0, x2), (9, 0)]) K ⟨.inl rfl, .inl rfl, .inr rfl, .inl rfl, trivial⟩
  refine ev_iload_n dX11_status_129 rfl ?_
  refine ev_aload_n dX11_status_130 rfl (by decide) ?_
  refine ev_getf (j := 4) (t := 2) (x := (185 : Int)) dX11_status_131 cf_X11 wf_X11_19 sp181 (by decide) (by decide) rfl (by decide) (rp181_4 _) ?_
  refine ev_iload_n dX11_status_134 rfl ?_
  refine ev_iald dX11_status_135 sp185 (by decide) (by decide) h (fun h => ?_)
  refine ev_if_lt (tgt := 143) dX11_status_136 rfl h (fun cb h => ?_) (fun cb h => ?_)
  · refine ev_iconst dX11_status_143 (by decide) ?_
    exact ev_sub (L2 := [(2, (181 : Int)), (9, 0), (9, 0), (0, x3)]) (e_X11_status_144 σ x3 (0 : Int) x2 h K) ⟨.inr rfl, .inl rfl, .inl rfl, .inr rfl, trivial⟩
  refine ev_iconst dX11_status_139 (by decide) ?_
  refine ev_goto (tgt := 144) dX11_status_140 rfl ?_
  exact ev_sub (L2 := [(2, (181 : Int)), (9, 0), (9, 0), (0, x3)]) (e_X11_status_144 σ x3 (1 : Int) x2 h K) ⟨.inr rfl, .inl rfl, .inl rfl, .inr rfl, trivial⟩
set_option maxHeartbeats 4000000 in
set_option maxRecDepth 20000 in
theorem e_X11_status_123 (σ : Mem) (x2 x3 : Int)  {q : (Int × Mem)} (h : f_X11_status_123 σ x2 x3 = some q) : Ev M_X11_status 218 218 (some (0, q.1), rho, q.2) 123 218 rho σ [(2, (181 : Int)), (9, 0), (0, x2), (0, x3)] [] := by
  unfold f_X11_status_123 at h
  obtain ⟨e, hl, h⟩ := bind_of h
  refine loop_ev (K := K_X11_status_123 σ (some (0, q.1), rho, q.2)) (b_X11_status_123 σ) FU (x2, x3) e hl ?_
  show Ev M_X11_status 218 218 _ 152 218 rho σ [(9, 0), (9, 0), (0, e), (9, 0)] []
  replace h : some (e, σ) = some q := h
  refine ev_iload_n dX11_status_152 rfl ?_
  obtain rfl := Option.some.inj h
  dsimp only
  exact ev_iret dX11_status_153 rfl rfl
set_option maxHeartbeats 4000000 in
set_option maxRecDepth 20000 in
theorem c_X11_status {σ : Mem} {x1 : Int}  {q : (Int × Mem)} (h : f_X11_status σ x1 = some q) : Ms yX11_status M_X11_status 218 218 [(2, (181 : Int)), (0, x1)] rho σ (some (0, q.1), rho, q.2) := by
  refine Ms.of 2 (by decide +kernel) rfl (fun z => absurd z (by decide)) (fun _ _ _ => trivial) rfl rfl ?_
  unfold f_X11_status at h
  show Ev M_X11_status 218 218 _ 0 218 rho σ [(2, (181 : Int)), (0, x1), (9, 0), (9, 0)] []
  refine ev_iload_n dX11_status_0 rfl ?_
  refine ev_by h (fun cs h => ?_) (fun cs0 h => ?_)
  · refine ev_tswIn (off := 55) (tgt := 56) dX11_status_1 (by rw [cs]; decide) (by rw [cs]; decide) (by rw [cs]; rfl) rfl ?_
    refine ev_aload_n dX11_status_56 rfl (by decide) ?_
    refine ev_getf (j := 0) (t := 2) (x := (182 : Int)) dX11_status_57 cf_X11 wf_X11_7 sp181 (by decide) (by decide) rfl (by decide) (rp181_0 _) ?_
    refine ev_bipush dX11_status_60 (by decide) (by decide) ?_
    refine ev_iald dX11_status_62 sp182 (by decide) (by decide) h (fun h => ?_)
    obtain rfl := Option.some.inj h
    dsimp only
    exact ev_iret dX11_status_63 rfl rfl
  refine ev_by h (fun cs h => ?_) (fun cs1 h => ?_)
  · refine ev_tswIn (off := 63) (tgt := 64) dX11_status_1 (by rw [cs]; decide) (by rw [cs]; decide) (by rw [cs]; rfl) rfl ?_
    refine ev_aload_n dX11_status_64 rfl (by decide) ?_
    refine ev_getf (j := 0) (t := 2) (x := (182 : Int)) dX11_status_65 cf_X11 wf_X11_7 sp181 (by decide) (by decide) rfl (by decide) (rp181_0 _) ?_
    refine ev_bipush dX11_status_68 (by decide) (by decide) ?_
    refine ev_iald dX11_status_70 sp182 (by decide) (by decide) h (fun h => ?_)
    obtain rfl := Option.some.inj h
    dsimp only
    exact ev_iret dX11_status_71 rfl rfl
  refine ev_by h (fun cs h => ?_) (fun cs2 h => ?_)
  · refine ev_tswIn (off := 71) (tgt := 72) dX11_status_1 (by rw [cs]; decide) (by rw [cs]; decide) (by rw [cs]; rfl) rfl ?_
    refine ev_aload_n dX11_status_72 rfl (by decide) ?_
    refine ev_getf (j := 0) (t := 2) (x := (182 : Int)) dX11_status_73 cf_X11 wf_X11_7 sp181 (by decide) (by decide) rfl (by decide) (rp181_0 _) ?_
    refine ev_bipush dX11_status_76 (by decide) (by decide) ?_
    refine ev_iald dX11_status_78 sp182 (by decide) (by decide) h (fun h => ?_)
    obtain rfl := Option.some.inj h
    dsimp only
    exact ev_iret dX11_status_79 rfl rfl
  refine ev_by h (fun cs h => ?_) (fun cs3 h => ?_)
  · refine ev_tswIn (off := 79) (tgt := 80) dX11_status_1 (by rw [cs]; decide) (by rw [cs]; decide) (by rw [cs]; rfl) rfl ?_
    refine ev_aload_n dX11_status_80 rfl (by decide) ?_
    refine ev_getf (j := 0) (t := 2) (x := (182 : Int)) dX11_status_81 cf_X11 wf_X11_7 sp181 (by decide) (by decide) rfl (by decide) (rp181_0 _) ?_
    refine ev_bipush dX11_status_84 (by decide) (by decide) ?_
    refine ev_iald dX11_status_86 sp182 (by decide) (by decide) h (fun h => ?_)
    obtain rfl := Option.some.inj h
    dsimp only
    exact ev_iret dX11_status_87 rfl rfl
  refine ev_by h (fun cs h => ?_) (fun cs4 h => ?_)
  · refine ev_tswIn (off := 87) (tgt := 88) dX11_status_1 (by rw [cs]; decide) (by rw [cs]; decide) (by rw [cs]; rfl) rfl ?_
    refine ev_aload_n dX11_status_88 rfl (by decide) ?_
    refine ev_getf (j := 0) (t := 2) (x := (182 : Int)) dX11_status_89 cf_X11 wf_X11_7 sp181 (by decide) (by decide) rfl (by decide) (rp181_0 _) ?_
    refine ev_bipush dX11_status_92 (by decide) (by decide) ?_
    refine ev_iald dX11_status_94 sp182 (by decide) (by decide) h (fun h => ?_)
    obtain rfl := Option.some.inj h
    dsimp only
    exact ev_iret dX11_status_95 rfl rfl
  refine ev_by h (fun cs h => ?_) (fun cs5 h => ?_)
  · refine ev_tswIn (off := 95) (tgt := 96) dX11_status_1 (by rw [cs]; decide) (by rw [cs]; decide) (by rw [cs]; rfl) rfl ?_
    refine ev_aload_n dX11_status_96 rfl (by decide) ?_
    obtain ⟨v1, hc2, h⟩ := bind_of h
    refine ev_invV_v (k := (181 : Int)) (av := []) (st := []) (v := (0, v1)) (τ := σ) dX11_status_97 ml_X11_380 mv_X11_taken (T := TX11) (ci := 10) rfl sp181 (by decide) (by decide) rfl ⟨Nat.le_of_ble_eq_true rfl, Nat.le_of_ble_eq_true rfl⟩ (Nat.le_of_ble_eq_true rfl) (c_X11_taken hc2) ?_
    obtain rfl := Option.some.inj h
    dsimp only
    exact ev_iret dX11_status_100 rfl rfl
  refine ev_by h (fun cs h => ?_) (fun cs6 h => ?_)
  · refine ev_tswIn (off := 100) (tgt := 101) dX11_status_1 (by rw [cs]; decide) (by rw [cs]; decide) (by rw [cs]; rfl) rfl ?_
    refine ev_aload_n dX11_status_101 rfl (by decide) ?_
    obtain ⟨v3, hc4, h⟩ := bind_of h
    refine ev_invV_v (k := (181 : Int)) (av := []) (st := []) (v := (0, v3.1)) (τ := v3.2) dX11_status_102 ml_X11_383 mv_X11_badDays (T := TX11) (ci := 10) rfl sp181 (by decide) (by decide) rfl ⟨Nat.le_of_ble_eq_true rfl, Nat.le_of_ble_eq_true rfl⟩ (Nat.le_of_ble_eq_true rfl) (c_X11_badDays hc4) ?_
    obtain rfl := Option.some.inj h
    dsimp only
    exact ev_iret dX11_status_105 rfl rfl
  refine ev_by h (fun cs h => ?_) (fun cs7 h => ?_)
  · refine ev_tswIn (off := 105) (tgt := 106) dX11_status_1 (by rw [cs]; decide) (by rw [cs]; decide) (by rw [cs]; rfl) rfl ?_
    refine ev_aload_n dX11_status_106 rfl (by decide) ?_
    refine ev_getf (j := 9) (t := 0) (x := (σ (181 : Int) 9)) dX11_status_107 cf_X11 wf_X11_205 sp181 (by decide) (by decide) rfl (by decide) rfl ?_
    obtain rfl := Option.some.inj h
    dsimp only
    exact ev_iret dX11_status_110 rfl rfl
  refine ev_by h (fun cs h => ?_) (fun cs8 h => ?_)
  · refine ev_tswIn (off := 110) (tgt := 111) dX11_status_1 (by rw [cs]; decide) (by rw [cs]; decide) (by rw [cs]; rfl) rfl ?_
    refine ev_aload_n dX11_status_111 rfl (by decide) ?_
    refine ev_getf (j := 0) (t := 2) (x := (182 : Int)) dX11_status_112 cf_X11 wf_X11_7 sp181 (by decide) (by decide) rfl (by decide) (rp181_0 _) ?_
    refine ev_bipush dX11_status_115 (by decide) (by decide) ?_
    refine ev_iald dX11_status_117 sp182 (by decide) (by decide) h (fun h => ?_)
    obtain rfl := Option.some.inj h
    dsimp only
    exact ev_iret dX11_status_118 rfl rfl
  refine ev_by h (fun cs h => ?_) (fun cs9 h => ?_)
  · refine ev_tswIn (off := 118) (tgt := 119) dX11_status_1 (by rw [cs]; decide) (by rw [cs]; decide) (by rw [cs]; rfl) rfl ?_
    refine ev_iconst dX11_status_119 (by decide) ?_
    refine ev_istore_n dX11_status_120 rfl (by decide) ?_
    show Ev _ _ _ _ 121 _ _ _ [(2, (181 : Int)), (0, x1), (0, (0 : Int)), (9, 0)] _
    refine ev_iconst dX11_status_121 (by decide) ?_
    refine ev_istore_n dX11_status_122 rfl (by decide) ?_
    show Ev _ _ _ _ 123 _ _ _ [(2, (181 : Int)), (0, x1), (0, (0 : Int)), (0, (0 : Int))] _
    exact ev_sub (L2 := [(2, (181 : Int)), (9, 0), (0, (0 : Int)), (0, (0 : Int))]) (e_X11_status_123 σ (0 : Int) (0 : Int) h) ⟨.inr rfl, .inl rfl, .inr rfl, .inr rfl, trivial⟩
  refine ev_tswOut (tgt := 154) dX11_status_1 (by omega) rfl ?_
  refine ev_iload_n dX11_status_154 rfl ?_
  refine ev_i2lk dX11_status_155 ?_
  refine ev_ldc2 (x := (12 : Int)) dX11_status_156 wc_X11_162 (by decide) (by decide) ?_
  refine ev_ldc2 (x := (16 : Int)) dX11_status_159 wc_X11_386 (by decide) (by decide) ?_
  obtain ⟨v5, hc6, h⟩ := bind_of h
  refine ev_invS_v (av := [(1, x1), (1, (12 : Int)), (1, (16 : Int))]) (st := []) (v := (0, v5)) (τ := σ) dX11_status_162 ml_X11_120 mt_X11_isIn rfl ⟨Nat.le_of_ble_eq_true rfl, Nat.le_of_ble_eq_true rfl⟩ (Nat.le_of_ble_eq_true rfl) (c_X11_isIn hc6) ?_
  refine ev_if_eq (tgt := 180) dX11_status_165 rfl h (fun cb h => ?_) (fun cb h => ?_)
  · refine ev_iconst dX11_status_180 (by decide) ?_
    obtain rfl := Option.some.inj h
    dsimp only
    exact ev_iret dX11_status_181 rfl rfl
  refine ev_aload_n dX11_status_168 rfl (by decide) ?_
  refine ev_getf (j := 3) (t := 2) (x := (184 : Int)) dX11_status_169 cf_X11 wf_X11_16 sp181 (by decide) (by decide) rfl (by decide) (rp181_3 _) ?_
  refine ev_iload_n dX11_status_172 rfl ?_
  refine ev_bipush dX11_status_173 (by decide) (by decide) ?_
  refine ev_isub dX11_status_175 ?_
  refine ev_iald dX11_status_176 sp184 (by decide) (by decide) h (fun h => ?_)
  refine ev_goto (tgt := 181) dX11_status_177 rfl ?_
  obtain rfl := Option.some.inj h
  dsimp only
  exact ev_iret dX11_status_181 rfl rfl
