def K_X1_gather_45 (x3 x4 : Int) (r : Option V × Mem × Mem) : (Int × Mem) ⊕ ((Mem)) → Prop := Sum.elim (fun a => Ev M_X1_gather 210 210 r 45 210 rho a.2 [(2, (156 : Int)), (2, (1 : Int)), (2, (43 : Int)), (0, x3), (0, x4), (0, a.1)] []) (fun e => Ev M_X1_gather 210 210 r 81 210 rho e [(2, (156 : Int)), (2, (1 : Int)), (2, (43 : Int)), (0, x3), (0, x4), (9, 0)] [])
def K_X1_gather_35 (x3 : Int) (r : Option V × Mem × Mem) : (Int × Mem) ⊕ ((Mem)) → Prop := Sum.elim (fun a => Ev M_X1_gather 210 210 r 35 210 rho a.2 [(2, (156 : Int)), (2, (1 : Int)), (2, (43 : Int)), (0, x3), (0, a.1), (9, 0)] []) (fun e => Ev M_X1_gather 210 210 r 87 210 rho e [(2, (156 : Int)), (2, (1 : Int)), (2, (43 : Int)), (0, x3), (9, 0), (9, 0)] [])
def K_X1_gather_27 (r : Option V × Mem × Mem) : (Int × Mem) ⊕ ((Mem)) → Prop := Sum.elim (fun a => Ev M_X1_gather 210 210 r 27 210 rho a.2 [(2, (156 : Int)), (2, (1 : Int)), (2, (43 : Int)), (0, a.1), (9, 0), (9, 0)] []) (fun e => Ev M_X1_gather 210 210 r 93 210 rho e [(2, (156 : Int)), (2, (1 : Int)), (9, 0), (9, 0), (9, 0), (9, 0)] [])
set_option maxHeartbeats 4000000 in
set_option maxRecDepth 20000 in
theorem e_X1_gather_81 (σ : Mem) (x3 x4 : Int)  {q : ((Int × Mem) ⊕ ((Mem)))} (h : f_X1_gather_81 σ x3 x4 = some q) {r : Option V × Mem × Mem} (K : K_X1_gather_35 x3 r q) : Ev M_X1_gather 210 210 r 81 210 rho σ [(2, (156 : Int)), (2, (1 : Int)), (2, (43 : Int)), (0, x3), (0, x4), (9, 0)] [] := by
  unfold f_X1_gather_81 at h
  refine ev_iincG dX1_gather_81 rfl h rfl (fun v20 h => ?_)
  show Ev _ _ _ _ 84 _ _ _ [(2, (156 : Int)), (2, (1 : Int)), (2, (43 : Int)), (0, x3), (0, v20), (9, 0)] _
  refine ev_goto (tgt := 35) dX1_gather_84 rfl ?_
  obtain rfl := Option.some.inj h
  exact ev_sub (L2 := [(2, (156 : Int)), (2, (1 : Int)), (2, (43 : Int)), (0, x3), (0, v20), (9, 0)]) K ⟨.inr rfl, .inr rfl, .inr rfl, .inr rfl, .inr rfl, .inl rfl, trivial⟩
set_option maxHeartbeats 4000000 in
set_option maxRecDepth 20000 in
theorem b_X1_gather_45 (x3 x4 : Int)  {r : Option V × Mem × Mem} : ∀ a x, f_X1_gather_45B x3 x4 a = some x → K_X1_gather_45 x3 x4 r x → K_X1_gather_45 x3 x4 r (.inl a) := by
  intro a x h K
  obtain ⟨x5, σ⟩ := a
  have h : f_X1_gather_45C x3 x4 x5 σ = some x := h
  unfold f_X1_gather_45C at h
  show Ev M_X1_gather 210 210 r 45 210 rho σ [(2, (156 : Int)), (2, (1 : Int)), (2, (43 : Int)), (0, x3), (0, x4), (0, x5)] []
  refine ev_iload dX1_gather_45 rfl ?_
  refine ev_aload_n dX1_gather_47 rfl (by decide) ?_
  refine ev_getf (j := 9) (t := 0) (x := (σ (1 : Int) 9)) dX1_gather_48 cf_X0 wf_X1_48 sp1 (by decide) (by decide) rfl (by decide) rfl ?_
  refine ev_icmp_ge (tgt := 81) dX1_gather_51 rfl h (fun cb h => ?_) (fun cb h => ?_)
  · obtain rfl := Option.some.inj h
    exact ev_sub (L2 := [(2, (156 : Int)), (2, (1 : Int)), (2, (43 : Int)), (0, x3), (0, x4), (9, 0)]) K ⟨.inr rfl, .inr rfl, .inr rfl, .inr rfl, .inr rfl, .inl rfl, trivial⟩
  refine ev_aload_n dX1_gather_54 rfl (by decide) ?_
  refine ev_iload dX1_gather_55 rfl ?_
  refine ev_iload_n dX1_gather_57 rfl ?_
  refine ev_iload dX1_gather_58 rfl ?_
  refine ev_aload_n dX1_gather_60 rfl (by decide) ?_
  refine ev_iload dX1_gather_61 rfl ?_
  obtain ⟨v11, hc12, h⟩ := bind_of h
  refine ev_invV_v (k := (43 : Int)) (av := [(0, x5)]) (st := [(0, x4), (0, x3), (0, x5), (2, (156 : Int))]) (v := (2, v11.1)) (τ := v11.2) dX1_gather_63 ml_X1_53 mv_X9_of (T := TX9) (ci := 8) rfl sp43 (by decide) (by decide) rfl ⟨Nat.le_of_ble_eq_true rfl, Nat.le_of_ble_eq_true rfl⟩ (Nat.le_of_ble_eq_true rfl) (c_X9_of hc12) ?_
  have hw13 := w_X9_of hc12
  refine ev_iload_n dX1_gather_66 rfl ?_
  refine ev_iload dX1_gather_67 rfl ?_
  obtain ⟨v14, hc15, h⟩ := bind_of h
  refine ev_invV_v (k := v11.1) (av := [(0, x3), (0, x4)]) (st := [(0, x4), (0, x3), (0, x5), (2, (156 : Int))]) (v := (0, v14)) (τ := v11.2) dX1_gather_69 ml_X1_57 mv_X8_dutyFrom (T := TX8) (ci := 7) rfl (sW hw13) (pW hw13).1 (pW hw13).2 rfl ⟨Nat.le_of_ble_eq_true rfl, Nat.le_of_ble_eq_true rfl⟩ (Nat.le_of_ble_eq_true rfl) (c_X8_dutyFrom hw13 hc15) ?_
  obtain ⟨σ16, hc17, h⟩ := bind_of h
  refine ev_invV_n (k := (156 : Int)) (av := [(0, x5), (0, x3), (0, x4), (0, v14)]) (st := []) (τ := σ16) dX1_gather_72 ml_X1_63 mv_X1_add (T := TX1) (ci := 1) rfl sp156 (by decide) (by decide) rfl ⟨Nat.le_of_ble_eq_true rfl, Nat.le_of_ble_eq_true rfl⟩ (Nat.le_of_ble_eq_true rfl) (c_X1_add hc17) ?_
  show Ev _ _ _ _ 75 _ _ _ _ _
  refine ev_iincG dX1_gather_75 rfl h rfl (fun v18 h => ?_)
  show Ev _ _ _ _ 78 _ _ _ [(2, (156 : Int)), (2, (1 : Int)), (2, (43 : Int)), (0, x3), (0, x4), (0, v18)] _
  refine ev_goto (tgt := 45) dX1_gather_78 rfl ?_
  obtain rfl := Option.some.inj h
  exact ev_sub (L2 := [(2, (156 : Int)), (2, (1 : Int)), (2, (43 : Int)), (0, x3), (0, x4), (0, v18)]) K ⟨.inr rfl, .inr rfl, .inr rfl, .inr rfl, .inr rfl, .inr rfl, trivial⟩
set_option maxHeartbeats 4000000 in
set_option maxRecDepth 20000 in
theorem e_X1_gather_45 (σ : Mem) (x3 x4 x5 : Int)  {q : ((Int × Mem) ⊕ ((Mem)))} (h : f_X1_gather_45 σ x3 x4 x5 = some q) {r : Option V × Mem × Mem} (K : K_X1_gather_35 x3 r q) : Ev M_X1_gather 210 210 r 45 210 rho σ [(2, (156 : Int)), (2, (1 : Int)), (2, (43 : Int)), (0, x3), (0, x4), (0, x5)] [] := by
  unfold f_X1_gather_45 at h
  obtain ⟨e, hl, h⟩ := bind_of h
  refine loop_ev (K := K_X1_gather_45 x3 x4 r) (b_X1_gather_45 x3 x4) FU (x5, σ) e hl ?_
  show Ev M_X1_gather 210 210 r 81 210 rho e [(2, (156 : Int)), (2, (1 : Int)), (2, (43 : Int)), (0, x3), (0, x4), (9, 0)] []
  replace h : f_X1_gather_81 e x3 x4 = some q := h
  exact ev_sub (L2 := [(2, (156 : Int)), (2, (1 : Int)), (2, (43 : Int)), (0, x3), (0, x4), (9, 0)]) (e_X1_gather_81 e x3 x4 h K) ⟨.inr rfl, .inr rfl, .inr rfl, .inr rfl, .inr rfl, .inl rfl, trivial⟩
set_option maxHeartbeats 4000000 in
set_option maxRecDepth 20000 in
theorem e_X1_gather_87 (σ : Mem) (x3 : Int)  {q : ((Int × Mem) ⊕ ((Mem)))} (h : f_X1_gather_87 σ x3 = some q) {r : Option V × Mem × Mem} (K : K_X1_gather_27  r q) : Ev M_X1_gather 210 210 r 87 210 rho σ [(2, (156 : Int)), (2, (1 : Int)), (2, (43 : Int)), (0, x3), (9, 0), (9, 0)] [] := by
  unfold f_X1_gather_87 at h
  refine ev_iincG dX1_gather_87 rfl h rfl (fun v19 h => ?_)
  show Ev _ _ _ _ 90 _ _ _ [(2, (156 : Int)), (2, (1 : Int)), (2, (43 : Int)), (0, v19), (9, 0), (9, 0)] _
  refine ev_goto (tgt := 27) dX1_gather_90 rfl ?_
  obtain rfl := Option.some.inj h
  exact ev_sub (L2 := [(2, (156 : Int)), (2, (1 : Int)), (2, (43 : Int)), (0, v19), (9, 0), (9, 0)]) K ⟨.inr rfl, .inr rfl, .inr rfl, .inr rfl, .inl rfl, .inl rfl, trivial⟩
set_option maxHeartbeats 4000000 in
set_option maxRecDepth 20000 in
theorem b_X1_gather_35 (x3 : Int)  {r : Option V × Mem × Mem} : ∀ a x, f_X1_gather_35B x3 a = some x → K_X1_gather_35 x3 r x → K_X1_gather_35 x3 r (.inl a) := by
  intro a x h K
  obtain ⟨x4, σ⟩ := a
  have h : f_X1_gather_35C x3 x4 σ = some x := h
  unfold f_X1_gather_35C at h
  show Ev M_X1_gather 210 210 r 35 210 rho σ [(2, (156 : Int)), (2, (1 : Int)), (2, (43 : Int)), (0, x3), (0, x4), (9, 0)] []
  refine ev_iload dX1_gather_35 rfl ?_
  refine ev_bipush dX1_gather_37 (by decide) (by decide) ?_
  refine ev_icmp_ge (tgt := 87) dX1_gather_39 rfl h (fun cb h => ?_) (fun cb h => ?_)
  · obtain rfl := Option.some.inj h
    exact ev_sub (L2 := [(2, (156 : Int)), (2, (1 : Int)), (2, (43 : Int)), (0, x3), (9, 0), (9, 0)]) K ⟨.inr rfl, .inr rfl, .inr rfl, .inr rfl, .inl rfl, .inl rfl, trivial⟩
  refine ev_iconst dX1_gather_42 (by decide) ?_
  refine ev_istore dX1_gather_43 rfl (by decide) ?_
  show Ev _ _ _ _ 45 _ _ _ [(2, (156 : Int)), (2, (1 : Int)), (2, (43 : Int)), (0, x3), (0, x4), (0, (0 : Int))] _
  exact ev_sub (L2 := [(2, (156 : Int)), (2, (1 : Int)), (2, (43 : Int)), (0, x3), (0, x4), (0, (0 : Int))]) (e_X1_gather_45 σ x3 x4 (0 : Int) h K) ⟨.inr rfl, .inr rfl, .inr rfl, .inr rfl, .inr rfl, .inr rfl, trivial⟩
set_option maxHeartbeats 4000000 in
set_option maxRecDepth 20000 in
theorem e_X1_gather_35 (σ : Mem) (x3 x4 : Int)  {q : ((Int × Mem) ⊕ ((Mem)))} (h : f_X1_gather_35 σ x3 x4 = some q) {r : Option V × Mem × Mem} (K : K_X1_gather_27  r q) : Ev M_X1_gather 210 210 r 35 210 rho σ [(2, (156 : Int)), (2, (1 : Int)), (2, (43 : Int)), (0, x3), (0, x4), (9, 0)] [] := by
  unfold f_X1_gather_35 at h
  obtain ⟨e, hl, h⟩ := bind_of h
  refine loop_ev (K := K_X1_gather_35 x3 r) (b_X1_gather_35 x3) FU (x4, σ) e hl ?_
  show Ev M_X1_gather 210 210 r 87 210 rho e [(2, (156 : Int)), (2, (1 : Int)), (2, (43 : Int)), (0, x3), (9, 0), (9, 0)] []
  replace h : f_X1_gather_87 e x3 = some q := h
  exact ev_sub (L2 := [(2, (156 : Int)), (2, (1 : Int)), (2, (43 : Int)), (0, x3), (9, 0), (9, 0)]) (e_X1_gather_87 e x3 h K) ⟨.inr rfl, .inr rfl, .inr rfl, .inr rfl, .inl rfl, .inl rfl, trivial⟩
set_option maxHeartbeats 4000000 in
set_option maxRecDepth 20000 in
theorem e_X1_gather_93 (σ : Mem)  {q : Mem} (h : f_X1_gather_93 σ  = some q) : Ev M_X1_gather 210 210 (none, rho, q) 93 210 rho σ [(2, (156 : Int)), (2, (1 : Int)), (9, 0), (9, 0), (9, 0), (9, 0)] [] := by
  unfold f_X1_gather_93 at h
  refine ev_aload_n dX1_gather_93 rfl (by decide) ?_
  refine ev_aload_n dX1_gather_94 rfl (by decide) ?_
  refine ev_getf (j := 12) (t := 0) (x := (σ (1 : Int) 12)) dX1_gather_95 cf_X0 wf_X1_67 sp1 (by decide) (by decide) rfl (by decide) rfl ?_
  obtain ⟨σ7, hc8, h⟩ := bind_of h
  refine ev_invV_n (k := (156 : Int)) (av := [(0, (σ (1 : Int) 12))]) (st := []) (τ := σ7) dX1_gather_98 ml_X1_70 mv_X1_giveOut (T := TX1) (ci := 1) rfl sp156 (by decide) (by decide) rfl ⟨Nat.le_of_ble_eq_true rfl, Nat.le_of_ble_eq_true rfl⟩ (Nat.le_of_ble_eq_true rfl) (c_X1_giveOut hc8) ?_
  refine ev_aload_n dX1_gather_101 rfl (by decide) ?_
  refine ev_aload_n dX1_gather_102 rfl (by decide) ?_
  refine ev_getf (j := 12) (t := 0) (x := (σ7 (1 : Int) 12)) dX1_gather_103 cf_X0 wf_X1_67 sp1 (by decide) (by decide) rfl (by decide) rfl ?_
  obtain ⟨σ9, hc10, h⟩ := bind_of h
  refine ev_invV_n (k := (156 : Int)) (av := [(0, (σ7 (1 : Int) 12))]) (st := []) (τ := σ9) dX1_gather_106 ml_X1_74 mv_X1_countAtOnce (T := TX1) (ci := 1) rfl sp156 (by decide) (by decide) rfl ⟨Nat.le_of_ble_eq_true rfl, Nat.le_of_ble_eq_true rfl⟩ (Nat.le_of_ble_eq_true rfl) (c_X1_countAtOnce hc10) ?_
  obtain rfl := Option.some.inj h
  exact ev_vret dX1_gather_109 rfl rfl
set_option maxHeartbeats 4000000 in
set_option maxRecDepth 20000 in
theorem b_X1_gather_27  {r : Option V × Mem × Mem} : ∀ a x, f_X1_gather_27B  a = some x → K_X1_gather_27  r x → K_X1_gather_27  r (.inl a) := by
  intro a x h K
  obtain ⟨x3, σ⟩ := a
  have h : f_X1_gather_27C  x3 σ = some x := h
  unfold f_X1_gather_27C at h
  show Ev M_X1_gather 210 210 r 27 210 rho σ [(2, (156 : Int)), (2, (1 : Int)), (2, (43 : Int)), (0, x3), (9, 0), (9, 0)] []
  refine ev_iload_n dX1_gather_27 rfl ?_
  refine ev_iconst dX1_gather_28 (by decide) ?_
  refine ev_icmp_ge (tgt := 93) dX1_gather_29 rfl h (fun cb h => ?_) (fun cb h => ?_)
  · obtain rfl := Option.some.inj h
    exact ev_sub (L2 := [(2, (156 : Int)), (2, (1 : Int)), (9, 0), (9, 0), (9, 0), (9, 0)]) K ⟨.inr rfl, .inr rfl, .inl rfl, .inl rfl, .inl rfl, .inl rfl, trivial⟩
  refine ev_iconst dX1_gather_32 (by decide) ?_
  refine ev_istore dX1_gather_33 rfl (by decide) ?_
  show Ev _ _ _ _ 35 _ _ _ [(2, (156 : Int)), (2, (1 : Int)), (2, (43 : Int)), (0, x3), (0, (0 : Int)), (9, 0)] _
  exact ev_sub (L2 := [(2, (156 : Int)), (2, (1 : Int)), (2, (43 : Int)), (0, x3), (0, (0 : Int)), (9, 0)]) (e_X1_gather_35 σ x3 (0 : Int) h K) ⟨.inr rfl, .inr rfl, .inr rfl, .inr rfl, .inr rfl, .inl rfl, trivial⟩
set_option maxHeartbeats 4000000 in
set_option maxRecDepth 20000 in
theorem e_X1_gather_27 (σ : Mem) (x3 : Int)  {q : Mem} (h : f_X1_gather_27 σ x3 = some q) : Ev M_X1_gather 210 210 (none, rho, q) 27 210 rho σ [(2, (156 : Int)), (2, (1 : Int)), (2, (43 : Int)), (0, x3), (9, 0), (9, 0)] [] := by
  unfold f_X1_gather_27 at h
  obtain ⟨e, hl, h⟩ := bind_of h
  refine loop_ev (K := K_X1_gather_27  (none, rho, q)) (b_X1_gather_27 ) FU (x3, σ) e hl ?_
  show Ev M_X1_gather 210 210 _ 93 210 rho e [(2, (156 : Int)), (2, (1 : Int)), (9, 0), (9, 0), (9, 0), (9, 0)] []
  replace h : f_X1_gather_93 e = some q := h
  exact ev_sub (L2 := [(2, (156 : Int)), (2, (1 : Int)), (9, 0), (9, 0), (9, 0), (9, 0)]) (e_X1_gather_93 e h) ⟨.inr rfl, .inr rfl, .inl rfl, .inl rfl, .inl rfl, .inl rfl, trivial⟩
set_option maxHeartbeats 4000000 in
set_option maxRecDepth 20000 in
theorem c_X1_gather {σ : Mem}  {q : Mem} (h : f_X1_gather σ  = some q) : Ms yX1_gather M_X1_gather 210 210 [(2, (156 : Int)), (2, (1 : Int)), (2, (43 : Int))] rho σ (none, rho, q) := by
  refine Ms.of 3 (by decide +kernel) rfl (fun z => absurd z (by decide)) (fun _ _ _ => trivial) rfl rfl ?_
  unfold f_X1_gather at h
  show Ev M_X1_gather 210 210 _ 0 210 rho σ [(2, (156 : Int)), (2, (1 : Int)), (2, (43 : Int)), (9, 0), (9, 0), (9, 0)] []
  refine ev_aload_n dX1_gather_0 rfl (by decide) ?_
  refine ev_getf (j := 9) (t := 0) (x := (σ (156 : Int) 9)) dX1_gather_1 cf_X1 wf_X1_40 sp156 (by decide) (by decide) rfl (by decide) rfl ?_
  refine ev_aload_n dX1_gather_4 rfl (by decide) ?_
  obtain ⟨v1, hc2, h⟩ := bind_of h
  refine ev_invV_v (k := (43 : Int)) (av := []) (st := [(0, (σ (156 : Int) 9))]) (v := (0, v1)) (τ := σ) dX1_gather_5 ml_X1_43 mv_X9_edition (T := TX9) (ci := 8) rfl sp43 (by decide) (by decide) rfl ⟨Nat.le_of_ble_eq_true rfl, Nat.le_of_ble_eq_true rfl⟩ (Nat.le_of_ble_eq_true rfl) (c_X9_edition hc2) ?_
  refine ev_icmp_ne (tgt := 12) dX1_gather_8 rfl h (fun cb h => ?_) (fun cb h => ?_)
  · refine ev_aload_n dX1_gather_12 rfl (by decide) ?_
    refine ev_aload_n dX1_gather_13 rfl (by decide) ?_
    obtain ⟨v3, hc4, h⟩ := bind_of h
    refine ev_invV_v (k := (43 : Int)) (av := []) (st := [(2, (156 : Int))]) (v := (0, v3)) (τ := σ) dX1_gather_14 ml_X1_43 mv_X9_edition (T := TX9) (ci := 8) rfl sp43 (by decide) (by decide) rfl ⟨Nat.le_of_ble_eq_true rfl, Nat.le_of_ble_eq_true rfl⟩ (Nat.le_of_ble_eq_true rfl) (c_X9_edition hc4) ?_
    refine ev_putfG (j := 9) (t := 0) dX1_gather_17 cf_X1 wf_X1_40 sp156 (by decide) (by decide) rfl (by decide) (by decide) rfl (fun z => absurd z (by decide +kernel)) h (fun σ5 h => ?_)
    refine ev_aload_n dX1_gather_20 rfl (by decide) ?_
    refine ev_iconst dX1_gather_21 (by decide) ?_
    refine ev_putfG (j := 6) (t := 0) dX1_gather_22 cf_X1 wf_X1_30 sp156 (by decide) (by decide) rfl (by decide) (by decide) rfl (fun z => absurd z (by decide +kernel)) h (fun σ6 h => ?_)
    refine ev_iconst dX1_gather_25 (by decide) ?_
    refine ev_istore_n dX1_gather_26 rfl (by decide) ?_
    show Ev _ _ _ _ 27 _ _ _ [(2, (156 : Int)), (2, (1 : Int)), (2, (43 : Int)), (0, (0 : Int)), (9, 0), (9, 0)] _
    exact ev_sub (L2 := [(2, (156 : Int)), (2, (1 : Int)), (2, (43 : Int)), (0, (0 : Int)), (9, 0), (9, 0)]) (e_X1_gather_27 σ6 (0 : Int) h) ⟨.inr rfl, .inr rfl, .inr rfl, .inr rfl, .inl rfl, .inl rfl, trivial⟩
  obtain rfl := Option.some.inj h
  exact ev_vret dX1_gather_11 rfl rfl
set_option maxHeartbeats 4000000 in
set_option maxRecDepth 20000 in
theorem c_X2_isKind {σ : Mem} {x0 : Int}  {q : Int} (h : f_X2_isKind σ x0 = some q) : Ms yX2_isKind M_X2_isKind 210 210 [(0, x0)] rho σ (some (0, q), rho, σ) := by
  refine Ms.of 0 (by decide +kernel) rfl (fun z => absurd z (by decide)) (fun _ _ _ => trivial) rfl rfl ?_
  unfold f_X2_isKind at h
  show Ev M_X2_isKind 210 210 _ 0 210 rho σ [(0, x0)] []
  refine ev_iload_n dX2_isKind_0 rfl ?_
  refine ev_if_lt (tgt := 14) dX2_isKind_1 rfl h (fun cb h => ?_) (fun cb h => ?_)
  · refine ev_iconst dX2_isKind_14 (by decide) ?_
    obtain rfl := Option.some.inj h
    exact ev_zret dX2_isKind_15 rfl (chk_pos (.inl rfl))
  refine ev_iload_n dX2_isKind_4 rfl ?_
  refine ev_bipush dX2_isKind_5 (by decide) (by decide) ?_
  refine ev_icmp_ge (tgt := 14) dX2_isKind_7 rfl h (fun cb h => ?_) (fun cb h => ?_)
  · refine ev_iconst dX2_isKind_14 (by decide) ?_
    obtain rfl := Option.some.inj h
    exact ev_zret dX2_isKind_15 rfl (chk_pos (.inl rfl))
  refine ev_iconst dX2_isKind_10 (by decide) ?_
  refine ev_goto (tgt := 15) dX2_isKind_11 rfl ?_
  obtain rfl := Option.some.inj h
  exact ev_zret dX2_isKind_15 rfl (chk_pos (.inr rfl))
set_option maxHeartbeats 4000000 in
set_option maxRecDepth 20000 in
theorem c_X2_above {σ : Mem} {x0 : Int}  {q : Int} (h : f_X2_above σ x0 = some q) : Ms yX2_above M_X2_above 210 210 [(0, x0)] rho σ (some (0, q), rho, σ) := by
  refine Ms.of 0 (by decide +kernel) rfl (fun z => absurd z (by decide)) (fun _ _ _ => trivial) rfl rfl ?_
  unfold f_X2_above at h
  show Ev M_X2_above 210 210 _ 0 210 rho σ [(0, x0)] []
  refine ev_iload_n dX2_above_0 rfl ?_
  refine ev_by h (fun cs h => ?_) (fun cs0 h => ?_)
  · refine ev_tswIn (off := 35) (tgt := 36) dX2_above_1 (by rw [cs]; decide) (by rw [cs]; decide) (by rw [cs]; rfl) rfl ?_
    refine ev_iconst dX2_above_36 (by decide) ?_
    obtain rfl := Option.some.inj h
    exact ev_iret dX2_above_37 rfl rfl
  refine ev_by h (fun cs h => ?_) (fun cs1 h => ?_)
  · refine ev_tswIn (off := 35) (tgt := 36) dX2_above_1 (by rw [cs]; decide) (by rw [cs]; decide) (by rw [cs]; rfl) rfl ?_
    refine ev_iconst dX2_above_36 (by decide) ?_
    obtain rfl := Option.some.inj h
    exact ev_iret dX2_above_37 rfl rfl
  refine ev_by h (fun cs h => ?_) (fun cs2 h => ?_)
  · refine ev_tswIn (off := 37) (tgt := 38) dX2_above_1 (by rw [cs]; decide) (by rw [cs]; decide) (by rw [cs]; rfl) rfl ?_
    refine ev_iconst dX2_above_38 (by decide) ?_
    obtain rfl := Option.some.inj h
    exact ev_iret dX2_above_39 rfl rfl
  refine ev_by h (fun cs h => ?_) (fun cs3 h => ?_)
  · refine ev_tswIn (off := 39) (tgt := 40) dX2_above_1 (by rw [cs]; decide) (by rw [cs]; decide) (by rw [cs]; rfl) rfl ?_
    refine ev_iconst dX2_above_40 (by decide) ?_
    obtain rfl := Option.some.inj h
    exact ev_iret dX2_above_41 rfl rfl
  refine ev_by h (fun cs h => ?_) (fun cs4 h => ?_)
  · refine ev_tswIn (off := 35) (tgt := 36) dX2_above_1 (by rw [cs]; decide) (by rw [cs]; decide) (by rw [cs]; rfl) rfl ?_
    refine ev_iconst dX2_above_36 (by decide) ?_
    obtain rfl := Option.some.inj h
    exact ev_iret dX2_above_37 rfl rfl
  refine ev_tswOut (tgt := 42) dX2_above_1 (by omega) rfl ?_
  refine ev_iconst dX2_above_42 (by decide) ?_
  obtain rfl := Option.some.inj h
  exact ev_iret dX2_above_43 rfl rfl
def K_X2_isUnder_4 (σ : Mem) (x1 : Int) (r : Option V × Mem × Mem) : (Int × Int) ⊕ ((Unit) ⊕ (Unit)) → Prop := Sum.elim (fun a => Ev M_X2_isUnder 210 210 r 4 210 rho σ [(9, 0), (0, x1), (0, a.1), (0, a.2)] []) (Sum.elim (fun e => Ev M_X2_isUnder 210 210 r 20 210 rho σ [(9, 0), (9, 0), (9, 0), (9, 0)] []) (fun e => Ev M_X2_isUnder 210 210 r 33 210 rho σ [(9, 0), (9, 0), (9, 0), (9, 0)] []))
set_option maxHeartbeats 4000000 in
set_option maxRecDepth 20000 in
theorem b_X2_isUnder_4 (σ : Mem) (x1 : Int)  {r : Option V × Mem × Mem} : ∀ a x, f_X2_isUnder_4B σ x1 a = some x → K_X2_isUnder_4 σ x1 r x → K_X2_isUnder_4 σ x1 r (.inl a) := by
  intro a x h K
  obtain ⟨x2, x3⟩ := a
  have h : f_X2_isUnder_4C σ x1 x2 x3 = some x := h
  unfold f_X2_isUnder_4C at h
  show Ev M_X2_isUnder 210 210 r 4 210 rho σ [(9, 0), (0, x1), (0, x2), (0, x3)] []
  refine ev_iload_n dX2_isUnder_4 rfl ?_
  refine ev_bipush dX2_isUnder_5 (by decide) (by decide) ?_
  refine ev_icmp_ge (tgt := 33) dX2_isUnder_7 rfl h (fun cb h => ?_) (fun cb h => ?_)
  · obtain rfl := Option.some.inj h
    exact ev_sub (L2 := [(9, 0), (9, 0), (9, 0), (9, 0)]) K ⟨.inl rfl, .inl rfl, .inl rfl, .inl rfl, trivial⟩
  refine ev_iload_n dX2_isUnder_10 rfl ?_
  refine ev_iconst dX2_isUnder_11 (by decide) ?_
  refine ev_icmp_eq (tgt := 33) dX2_isUnder_12 rfl h (fun cb h => ?_) (fun cb h => ?_)
  · obtain rfl := Option.some.inj h
    exact ev_sub (L2 := [(9, 0), (9, 0), (9, 0), (9, 0)]) K ⟨.inl rfl, .inl rfl, .inl rfl, .inl rfl, trivial⟩
  refine ev_iload_n dX2_isUnder_15 rfl ?_
  refine ev_iload_n dX2_isUnder_16 rfl ?_
  refine ev_icmp_ne (tgt := 22) dX2_isUnder_17 rfl h (fun cb h => ?_) (fun cb h => ?_)
  · refine ev_iload_n dX2_isUnder_22 rfl ?_
    obtain ⟨v1, hc2, h⟩ := bind_of h
    refine ev_invS_v (av := [(0, x2)]) (st := []) (v := (0, v1)) (τ := σ) dX2_isUnder_23 ml_X2_11 mt_X2_above rfl ⟨Nat.le_of_ble_eq_true rfl, Nat.le_of_ble_eq_true rfl⟩ (Nat.le_of_ble_eq_true rfl) (c_X2_above hc2) ?_
    refine ev_istore_n dX2_isUnder_26 rfl (by decide) ?_
    show Ev _ _ _ _ 27 _ _ _ [(9, 0), (0, x1), (0, v1), (0, x3)] _
    refine ev_iincG dX2_isUnder_27 rfl h rfl (fun v3 h => ?_)
    show Ev _ _ _ _ 30 _ _ _ [(9, 0), (0, x1), (0, v1), (0, v3)] _
    refine ev_goto (tgt := 4) dX2_isUnder_30 rfl ?_
    obtain rfl := Option.some.inj h
    exact ev_sub (L2 := [(9, 0), (0, x1), (0, v1), (0, v3)]) K ⟨.inl rfl, .inr rfl, .inr rfl, .inr rfl, trivial⟩
  obtain rfl := Option.some.inj h
  exact ev_sub (L2 := [(9, 0), (9, 0), (9, 0), (9, 0)]) K ⟨.inl rfl, .inl rfl, .inl rfl, .inl rfl, trivial⟩
set_option maxHeartbeats 4000000 in
set_option maxRecDepth 20000 in
theorem e_X2_isUnder_4 (σ : Mem) (x1 x2 x3 : Int)  {q : Int} (h : f_X2_isUnder_4 σ x1 x2 x3 = some q) : Ev M_X2_isUnder 210 210 (some (0, q), rho, σ) 4 210 rho σ [(9, 0), (0, x1), (0, x2), (0, x3)] [] := by
  unfold f_X2_isUnder_4 at h
  obtain ⟨e, hl, h⟩ := bind_of h
  refine loop_ev (K := K_X2_isUnder_4 σ x1 (some (0, q), rho, σ)) (b_X2_isUnder_4 σ x1) FU (x2, x3) e hl ?_
  rcases e with e | e
  · show Ev M_X2_isUnder 210 210 _ 20 210 rho σ [(9, 0), (9, 0), (9, 0), (9, 0)] []
    replace h : some (1 : Int) = some q := h
    refine ev_iconst dX2_isUnder_20 (by decide) ?_
    obtain rfl := Option.some.inj h
    exact ev_zret dX2_isUnder_21 rfl (chk_pos (.inr rfl))
  · show Ev M_X2_isUnder 210 210 _ 33 210 rho σ [(9, 0), (9, 0), (9, 0), (9, 0)] []
    replace h : some (0 : Int) = some q := h
    refine ev_iconst dX2_isUnder_33 (by decide) ?_
    obtain rfl := Option.some.inj h
    exact ev_zret dX2_isUnder_34 rfl (chk_pos (.inl rfl))
set_option maxHeartbeats 4000000 in
set_option maxRecDepth 20000 in
theorem c_X2_isUnder {σ : Mem} {x0 x1 : Int}  {q : Int} (h : f_X2_isUnder σ x0 x1 = some q) : Ms yX2_isUnder M_X2_isUnder 210 210 [(0, x0), (0, x1)] rho σ (some (0, q), rho, σ) := by
  refine Ms.of 2 (by decide +kernel) rfl (fun z => absurd z (by decide)) (fun _ _ _ => trivial) rfl rfl ?_
  unfold f_X2_isUnder at h
  show Ev M_X2_isUnder 210 210 _ 0 210 rho σ [(0, x0), (0, x1), (9, 0), (9, 0)] []
  refine ev_iload_n dX2_isUnder_0 rfl ?_
  refine ev_istore_n dX2_isUnder_1 rfl (by decide) ?_
  show Ev _ _ _ _ 2 _ _ _ [(0, x0), (0, x1), (0, x0), (9, 0)] _
  refine ev_iconst dX2_isUnder_2 (by decide) ?_
  refine ev_istore_n dX2_isUnder_3 rfl (by decide) ?_
  show Ev _ _ _ _ 4 _ _ _ [(0, x0), (0, x1), (0, x0), (0, (0 : Int))] _
  exact ev_sub (L2 := [(9, 0), (0, x1), (0, x0), (0, (0 : Int))]) (e_X2_isUnder_4 σ x1 x0 (0 : Int) h) ⟨.inl rfl, .inr rfl, .inr rfl, .inr rfl, trivial⟩
set_option maxHeartbeats 4000000 in
set_option maxRecDepth 20000 in
theorem c_X2_word {σ : Mem} {x0 x1 x2 x3 : Int}  {q : Int} (h : f_X2_word σ x0 x1 x2 x3 = some q) : Ms yX2_word M_X2_word 210 210 [(0, x0), (0, x1), (0, x2), (0, x3)] rho σ (some (0, q), rho, σ) := by
  refine Ms.of 0 (by decide +kernel) rfl (fun z => absurd z (by decide)) (fun _ _ _ => trivial) rfl rfl ?_
  unfold f_X2_word at h
  show Ev M_X2_word 210 210 _ 0 210 rho σ [(0, x0), (0, x1), (0, x2), (0, x3)] []
  refine ev_iload_n dX2_word_0 rfl ?_
  refine ev_by h (fun cs h => ?_) (fun cs0 h => ?_)
  · refine ev_tswIn (off := 39) (tgt := 40) dX2_word_1 (by rw [cs]; decide) (by rw [cs]; decide) (by rw [cs]; rfl) rfl ?_
    refine ev_iload_n dX2_word_40 rfl ?_
    obtain rfl := Option.some.inj h
    exact ev_iret dX2_word_41 rfl rfl
  refine ev_by h (fun cs h => ?_) (fun cs1 h => ?_)
  · refine ev_tswIn (off := 41) (tgt := 42) dX2_word_1 (by rw [cs]; decide) (by rw [cs]; decide) (by rw [cs]; rfl) rfl ?_
    refine ev_iload_n dX2_word_42 rfl ?_
    refine ev_iload_n dX2_word_43 rfl ?_
    refine ev_iload_n dX2_word_44 rfl ?_
    obtain ⟨v1, hc2, h⟩ := bind_of h
    refine ev_invS_v (av := [(0, x1), (0, x2), (0, x3)]) (st := []) (v := (0, v1)) (τ := σ) dX2_word_45 ml_X2_15 mt_X2_timeOf rfl ⟨Nat.le_of_ble_eq_true rfl, Nat.le_of_ble_eq_true rfl⟩ (Nat.le_of_ble_eq_true rfl) (c_X2_timeOf hc2) ?_
    obtain rfl := Option.some.inj h
    exact ev_iret dX2_word_48 rfl rfl
  refine ev_by h (fun cs h => ?_) (fun cs2 h => ?_)
  · refine ev_tswIn (off := 61) (tgt := 62) dX2_word_1 (by rw [cs]; decide) (by rw [cs]; decide) (by rw [cs]; rfl) rfl ?_
    refine ev_iload_n dX2_word_62 rfl ?_
    refine ev_iload_n dX2_word_63 rfl ?_
    obtain ⟨v3, hc4, h⟩ := bind_of h
    refine ev_invS_v (av := [(0, x1), (0, x2)]) (st := []) (v := (0, v3)) (τ := σ) dX2_word_64 ml_X2_19 mt_X2_restOf rfl ⟨Nat.le_of_ble_eq_true rfl, Nat.le_of_ble_eq_true rfl⟩ (Nat.le_of_ble_eq_true rfl) (c_X2_restOf hc4) ?_
    obtain rfl := Option.some.inj h
    exact ev_iret dX2_word_67 rfl rfl
  refine ev_by h (fun cs h => ?_) (fun cs3 h => ?_)
  · refine ev_tswIn (off := 41) (tgt := 42) dX2_word_1 (by rw [cs]; decide) (by rw [cs]; decide) (by rw [cs]; rfl) rfl ?_
    refine ev_iload_n dX2_word_42 rfl ?_
    refine ev_iload_n dX2_word_43 rfl ?_
    refine ev_iload_n dX2_word_44 rfl ?_
    obtain ⟨v5, hc6, h⟩ := bind_of h
    refine ev_invS_v (av := [(0, x1), (0, x2), (0, x3)]) (st := []) (v := (0, v5)) (τ := σ) dX2_word_45 ml_X2_15 mt_X2_timeOf rfl ⟨Nat.le_of_ble_eq_true rfl, Nat.le_of_ble_eq_true rfl⟩ (Nat.le_of_ble_eq_true rfl) (c_X2_timeOf hc6) ?_
    obtain rfl := Option.some.inj h
    exact ev_iret dX2_word_48 rfl rfl
  refine ev_by h (fun cs h => ?_) (fun cs4 h => ?_)
  · refine ev_tswIn (off := 61) (tgt := 62) dX2_word_1 (by rw [cs]; decide) (by rw [cs]; decide) (by rw [cs]; rfl) rfl ?_
    refine ev_iload_n dX2_word_62 rfl ?_
    refine ev_iload_n dX2_word_63 rfl ?_
    obtain ⟨v7, hc8, h⟩ := bind_of h
    refine ev_invS_v (av := [(0, x1), (0, x2)]) (st := []) (v := (0, v7)) (τ := σ) dX2_word_64 ml_X2_19 mt_X2_restOf rfl ⟨Nat.le_of_ble_eq_true rfl, Nat.le_of_ble_eq_true rfl⟩ (Nat.le_of_ble_eq_true rfl) (c_X2_restOf hc8) ?_
    obtain rfl := Option.some.inj h
    exact ev_iret dX2_word_67 rfl rfl
  refine ev_by h (fun cs h => ?_) (fun cs5 h => ?_)
  · refine ev_tswIn (off := 48) (tgt := 49) dX2_word_1 (by rw [cs]; decide) (by rw [cs]; decide) (by rw [cs]; rfl) rfl ?_
    refine ev_iload_n dX2_word_49 rfl ?_
    refine ev_iload_n dX2_word_50 rfl ?_
    refine ev_iload_n dX2_word_51 rfl ?_
    obtain ⟨v9, hc10, h⟩ := bind_of h
    refine ev_invS_v (av := [(0, x1), (0, x2), (0, x3)]) (st := []) (v := (0, v9)) (τ := σ) dX2_word_52 ml_X2_15 mt_X2_timeOf rfl ⟨Nat.le_of_ble_eq_true rfl, Nat.le_of_ble_eq_true rfl⟩ (Nat.le_of_ble_eq_true rfl) (c_X2_timeOf hc10) ?_
    refine ev_iload_n dX2_word_55 rfl ?_
    refine ev_iload_n dX2_word_56 rfl ?_
    obtain ⟨v11, hc12, h⟩ := bind_of h
    refine ev_invS_v (av := [(0, x1), (0, x2)]) (st := [(0, v9)]) (v := (0, v11)) (τ := σ) dX2_word_57 ml_X2_19 mt_X2_restOf rfl ⟨Nat.le_of_ble_eq_true rfl, Nat.le_of_ble_eq_true rfl⟩ (Nat.le_of_ble_eq_true rfl) (c_X2_restOf hc12) ?_
    refine ev_iadd dX2_word_60 ?_
    obtain rfl := Option.some.inj h
    exact ev_iret dX2_word_61 rfl rfl
  refine ev_tswOut (tgt := 62) dX2_word_1 (by omega) rfl ?_
  refine ev_iload_n dX2_word_62 rfl ?_
  refine ev_iload_n dX2_word_63 rfl ?_
  obtain ⟨v13, hc14, h⟩ := bind_of h
  refine ev_invS_v (av := [(0, x1), (0, x2)]) (st := []) (v := (0, v13)) (τ := σ) dX2_word_64 ml_X2_19 mt_X2_restOf rfl ⟨Nat.le_of_ble_eq_true rfl, Nat.le_of_ble_eq_true rfl⟩ (Nat.le_of_ble_eq_true rfl) (c_X2_restOf hc14) ?_
  obtain rfl := Option.some.inj h
  exact ev_iret dX2_word_67 rfl rfl
set_option maxHeartbeats 4000000 in
set_option maxRecDepth 20000 in
theorem c_X3_lawfulOnes {σ : Mem}  {q : Int} (h : f_X3_lawfulOnes σ  = some q) : Ms yX3_lawfulOnes M_X3_lawfulOnes 210 210 [(2, (36 : Int))] rho σ (some (0, q), rho, σ) := by
  refine Ms.of 0 (by decide +kernel) rfl (fun z => absurd z (by decide)) (fun _ _ _ => trivial) rfl rfl ?_
  unfold f_X3_lawfulOnes at h
  show Ev M_X3_lawfulOnes 210 210 _ 0 210 rho σ [(2, (36 : Int))] []
  refine ev_aload_n dX3_lawfulOnes_0 rfl (by decide) ?_
  refine ev_getf (j := 12) (t := 0) (x := (σ (36 : Int) 12)) dX3_lawfulOnes_1 cf_X3 wf_X3_34 sp36 (by decide) (by decide) rfl (by decide) rfl ?_
  obtain rfl := Option.some.inj h
  exact ev_iret dX3_lawfulOnes_4 rfl rfl
def K_X4_planWeek_3 (x1 x2 x3 : Int) (r : Option V × Mem × Mem) : (Int × Mem) ⊕ ((Mem)) → Prop := Sum.elim (fun a => Ev M_X4_planWeek 210 210 r 3 210 rho a.2 [(2, (35 : Int)), (2, x1), (0, x2), (2, x3), (0, a.1)] []) (fun e => Ev M_X4_planWeek 210 210 r 24 210 rho e [(9, 0), (9, 0), (9, 0), (9, 0), (9, 0)] [])
set_option maxHeartbeats 4000000 in
set_option maxRecDepth 20000 in
theorem b_X4_planWeek_3 (x1 x2 x3 : Int) (hx1 : isB x1) (hx3 : isW x3) {r : Option V × Mem × Mem} : ∀ a x, f_X4_planWeek_3B x1 x2 x3 a = some x → K_X4_planWeek_3 x1 x2 x3 r x → K_X4_planWeek_3 x1 x2 x3 r (.inl a) := by
  intro a x h K
  obtain ⟨x4, σ⟩ := a
  have h : f_X4_planWeek_3C x1 x2 x3 x4 σ = some x := h
  unfold f_X4_planWeek_3C at h
  show Ev M_X4_planWeek 210 210 r 3 210 rho σ [(2, (35 : Int)), (2, x1), (0, x2), (2, x3), (0, x4)] []
  refine ev_iload dX4_planWeek_3 rfl ?_
  refine ev_iconst dX4_planWeek_5 (by decide) ?_
  refine ev_icmp_ge (tgt := 24) dX4_planWeek_6 rfl h (fun cb h => ?_) (fun cb h => ?_)
  · obtain rfl := Option.some.inj h
    exact ev_sub (L2 := [(9, 0), (9, 0), (9, 0), (9, 0), (9, 0)]) K ⟨.inl rfl, .inl rfl, .inl rfl, .inl rfl, .inl rfl, trivial⟩
  refine ev_aload_n dX4_planWeek_9 rfl (by decide) ?_
  refine ev_aload_n dX4_planWeek_10 rfl (pB hx1).1 ?_
  refine ev_iload_n dX4_planWeek_11 rfl ?_
  refine ev_iload dX4_planWeek_12 rfl ?_
  refine ev_aload_n dX4_planWeek_14 rfl (pW hx3).1 ?_
  obtain ⟨σ1, hc2, h⟩ := bind_of h
  refine ev_invV_n (k := (35 : Int)) (av := [(2, x1), (0, x2), (0, x4), (2, x3)]) (st := []) (τ := σ1) dX4_planWeek_15 ml_X4_18 mv_X4_planDay (T := TX4) (ci := 3) rfl sp35 (by decide) (by decide) rfl ⟨Nat.le_of_ble_eq_true rfl, Nat.le_of_ble_eq_true rfl⟩ (Nat.le_of_ble_eq_true rfl) (c_X4_planDay hx1 hx3 hc2) ?_
  refine ev_iincG dX4_planWeek_18 rfl h rfl (fun v3 h => ?_)
  show Ev _ _ _ _ 21 _ _ _ [(2, (35 : Int)), (2, x1), (0, x2), (2, x3), (0, v3)] _
  refine ev_goto (tgt := 3) dX4_planWeek_21 rfl ?_
  obtain rfl := Option.some.inj h
  exact ev_sub (L2 := [(2, (35 : Int)), (2, x1), (0, x2), (2, x3), (0, v3)]) K ⟨.inr rfl, .inr rfl, .inr rfl, .inr rfl, .inr rfl, trivial⟩
set_option maxHeartbeats 4000000 in
set_option maxRecDepth 20000 in
theorem e_X4_planWeek_3 (σ : Mem) (x1 x2 x3 x4 : Int) (hx1 : isB x1) (hx3 : isW x3) {q : Mem} (h : f_X4_planWeek_3 σ x1 x2 x3 x4 = some q) : Ev M_X4_planWeek 210 210 (none, rho, q) 3 210 rho σ [(2, (35 : Int)), (2, x1), (0, x2), (2, x3), (0, x4)] [] := by
  unfold f_X4_planWeek_3 at h
  obtain ⟨e, hl, h⟩ := bind_of h
  refine loop_ev (K := K_X4_planWeek_3 x1 x2 x3 (none, rho, q)) (b_X4_planWeek_3 x1 x2 x3 hx1 hx3) FU (x4, σ) e hl ?_
  show Ev M_X4_planWeek 210 210 _ 24 210 rho e [(9, 0), (9, 0), (9, 0), (9, 0), (9, 0)] []
  replace h : some e = some q := h
  obtain rfl := Option.some.inj h
  exact ev_vret dX4_planWeek_24 rfl rfl
set_option maxHeartbeats 4000000 in
set_option maxRecDepth 20000 in
theorem c_X4_planWeek {σ : Mem} {x1 x2 x3 : Int} (hx1 : isB x1) (hx3 : isW x3) {q : Mem} (h : f_X4_planWeek σ x1 x2 x3 = some q) : Ms yX4_planWeek M_X4_planWeek 210 210 [(2, (35 : Int)), (2, x1), (0, x2), (2, x3)] rho σ (none, rho, q) := by
  refine Ms.of 1 (by decide +kernel) rfl (fun z => absurd z (by decide)) (fun _ _ _ => trivial) rfl rfl ?_
  unfold f_X4_planWeek at h
  show Ev M_X4_planWeek 210 210 _ 0 210 rho σ [(2, (35 : Int)), (2, x1), (0, x2), (2, x3), (9, 0)] []
  refine ev_iconst dX4_planWeek_0 (by decide) ?_
  refine ev_istore dX4_planWeek_1 rfl (by decide) ?_
  show Ev _ _ _ _ 3 _ _ _ [(2, (35 : Int)), (2, x1), (0, x2), (2, x3), (0, (0 : Int))] _
  exact ev_sub (L2 := [(2, (35 : Int)), (2, x1), (0, x2), (2, x3), (0, (0 : Int))]) (e_X4_planWeek_3 σ x1 x2 x3 (0 : Int) hx1 hx3 h) ⟨.inr rfl, .inr rfl, .inr rfl, .inr rfl, .inr rfl, trivial⟩
def K_X4_replan_6 (x1 x2 x4 : Int) (r : Option V × Mem × Mem) : (Int × Int × Mem) ⊕ ((Mem)) → Prop := Sum.elim (fun a => Ev M_X4_replan 210 210 r 6 210 rho a.2.2 [(2, (35 : Int)), (2, x1), (0, x2), (9, 0), (2, x4), (0, a.1), (0, a.2.1), (9, 0)] []) (fun e => Ev M_X4_replan 210 210 r 63 210 rho e [(9, 0), (9, 0), (9, 0), (9, 0), (9, 0), (9, 0), (9, 0), (9, 0)] [])
set_option maxHeartbeats 4000000 in
set_option maxRecDepth 20000 in
theorem e_X4_replan_55 (σ : Mem) (x1 x2 x4 x6 s0 : Int) (hx1 : isB x1) (hx4 : isW x4) {q : ((Int × Int × Mem) ⊕ ((Mem)))} (h : f_X4_replan_55 σ x1 x2 x4 x6 s0 = some q) {r : Option V × Mem × Mem} (K : K_X4_replan_6 x1 x2 x4 r q) : Ev M_X4_replan 210 210 r 55 210 rho σ [(2, (35 : Int)), (2, x1), (0, x2), (9, 0), (2, x4), (9, 0), (0, x6), (9, 0)] [(0, s0)] := by
  unfold f_X4_replan_55 at h
  refine ev_istore dX4_replan_55 rfl (by decide) ?_
  show Ev _ _ _ _ 57 _ _ _ [(2, (35 : Int)), (2, x1), (0, x2), (9, 0), (2, x4), (0, s0), (0, x6), (9, 0)] _
  refine ev_iincG dX4_replan_57 rfl h rfl (fun v4 h => ?_)
  show Ev _ _ _ _ 60 _ _ _ [(2, (35 : Int)), (2, x1), (0, x2), (9, 0), (2, x4), (0, s0), (0, v4), (9, 0)] _
  refine ev_goto (tgt := 6) dX4_replan_60 rfl ?_
  obtain rfl := Option.some.inj h
  exact ev_sub (L2 := [(2, (35 : Int)), (2, x1), (0, x2), (9, 0), (2, x4), (0, s0), (0, v4), (9, 0)]) K ⟨.inr rfl, .inr rfl, .inr rfl, .inl rfl, .inr rfl, .inr rfl, .inr rfl, .inl rfl, trivial⟩
set_option maxHeartbeats 4000000 in
set_option maxRecDepth 20000 in
theorem b_X4_replan_6 (x1 x2 x4 : Int) (hx1 : isB x1) (hx4 : isW x4) {r : Option V × Mem × Mem} : ∀ a x, f_X4_replan_6B x1 x2 x4 a = some x → K_X4_replan_6 x1 x2 x4 r x → K_X4_replan_6 x1 x2 x4 r (.inl a) := by
  intro a x h K
  obtain ⟨x5, x6, σ⟩ := a
  have h : f_X4_replan_6C x1 x2 x4 x5 x6 σ = some x := h
  unfold f_X4_replan_6C at h
  show Ev M_X4_replan 210 210 r 6 210 rho σ [(2, (35 : Int)), (2, x1), (0, x2), (9, 0), (2, x4), (0, x5), (0, x6), (9, 0)] []
  refine ev_iload dX4_replan_6 rfl ?_
  refine ev_iconst dX4_replan_8 (by decide) ?_
  refine ev_icmp_ge (tgt := 63) dX4_replan_9 rfl h (fun cb h => ?_) (fun cb h => ?_)
  · obtain rfl := Option.some.inj h
    exact ev_sub (L2 := [(9, 0), (9, 0), (9, 0), (9, 0), (9, 0), (9, 0), (9, 0), (9, 0)]) K ⟨.inl rfl, .inl rfl, .inl rfl, .inl rfl, .inl rfl, .inl rfl, .inl rfl, .inl rfl, trivial⟩
  refine ev_iload dX4_replan_12 rfl ?_
  refine ev_if_ne (tgt := 63) dX4_replan_14 rfl h (fun cb h => ?_) (fun cb h => ?_)
  · obtain rfl := Option.some.inj h
    exact ev_sub (L2 := [(9, 0), (9, 0), (9, 0), (9, 0), (9, 0), (9, 0), (9, 0), (9, 0)]) K ⟨.inl rfl, .inl rfl, .inl rfl, .inl rfl, .inl rfl, .inl rfl, .inl rfl, .inl rfl, trivial⟩
  refine ev_aload dX4_replan_17 rfl (pW hx4).1 ?_
  refine ev_getf (j := 1) (t := 2) (x := (x4 + 2)) dX4_replan_19 cf_X8 wf_X4_22 (sW hx4) (pW hx4).1 (pW hx4).2 rfl (by decide) (rW1 _ hx4) ?_
  refine ev_iload dX4_replan_22 rfl ?_
  refine ev_iald dX4_replan_24 (sW1 hx4) (pW1 hx4).1 (pW1 hx4).2 h (fun h => ?_)
  refine ev_istoreG dX4_replan_25 h rfl (by decide) (fun v1 h => ?_)
  show Ev _ _ _ _ 27 _ _ _ [(2, (35 : Int)), (2, x1), (0, x2), (9, 0), (2, x4), (0, x5), (0, x6), (0, v1)] _
  refine ev_aload_n dX4_replan_27 rfl (by decide) ?_
  refine ev_aload_n dX4_replan_28 rfl (pB hx1).1 ?_
  refine ev_iload_n dX4_replan_29 rfl ?_
  refine ev_iload dX4_replan_30 rfl ?_
  refine ev_aload dX4_replan_32 rfl (pW hx4).1 ?_
  obtain ⟨σ2, hc3, h⟩ := bind_of h
  refine ev_invV_n (k := (35 : Int)) (av := [(2, x1), (0, x2), (0, x6), (2, x4)]) (st := []) (τ := σ2) dX4_replan_34 ml_X4_18 mv_X4_planDay (T := TX4) (ci := 3) rfl sp35 (by decide) (by decide) rfl ⟨Nat.le_of_ble_eq_true rfl, Nat.le_of_ble_eq_true rfl⟩ (Nat.le_of_ble_eq_true rfl) (c_X4_planDay hx1 hx4 hc3) ?_
  show Ev _ _ _ _ 37 _ _ _ _ _
  refine ev_aload dX4_replan_37 rfl (pW hx4).1 ?_
  refine ev_getf (j := 1) (t := 2) (x := (x4 + 2)) dX4_replan_39 cf_X8 wf_X4_22 (sW hx4) (pW hx4).1 (pW hx4).2 rfl (by decide) (rW1 _ hx4) ?_
  refine ev_iload dX4_replan_42 rfl ?_
  refine ev_iald dX4_replan_44 (sW1 hx4) (pW1 hx4).1 (pW1 hx4).2 h (fun h => ?_)
  refine ev_iload dX4_replan_45 rfl ?_
  refine ev_icmp_ne (tgt := 54) dX4_replan_47 rfl h (fun cb h => ?_) (fun cb h => ?_)
  · refine ev_iconst dX4_replan_54 (by decide) ?_
    exact ev_sub (L2 := [(2, (35 : Int)), (2, x1), (0, x2), (9, 0), (2, x4), (9, 0), (0, x6), (9, 0)]) (e_X4_replan_55 σ2 x1 x2 x4 x6 (0 : Int) hx1 hx4 h K) ⟨.inr rfl, .inr rfl, .inr rfl, .inl rfl, .inr rfl, .inl rfl, .inr rfl, .inl rfl, trivial⟩
  refine ev_iconst dX4_replan_50 (by decide) ?_
  refine ev_goto (tgt := 55) dX4_replan_51 rfl ?_
  exact ev_sub (L2 := [(2, (35 : Int)), (2, x1), (0, x2), (9, 0), (2, x4), (9, 0), (0, x6), (9, 0)]) (e_X4_replan_55 σ2 x1 x2 x4 x6 (1 : Int) hx1 hx4 h K) ⟨.inr rfl, .inr rfl, .inr rfl, .inl rfl, .inr rfl, .inl rfl, .inr rfl, .inl rfl, trivial⟩
set_option maxHeartbeats 4000000 in
set_option maxRecDepth 20000 in
theorem e_X4_replan_6 (σ : Mem) (x1 x2 x4 x5 x6 : Int) (hx1 : isB x1) (hx4 : isW x4) {q : Mem} (h : f_X4_replan_6 σ x1 x2 x4 x5 x6 = some q) : Ev M_X4_replan 210 210 (none, rho, q) 6 210 rho σ [(2, (35 : Int)), (2, x1), (0, x2), (9, 0), (2, x4), (0, x5), (0, x6), (9, 0)] [] := by
  unfold f_X4_replan_6 at h
  obtain ⟨e, hl, h⟩ := bind_of h
  refine loop_ev (K := K_X4_replan_6 x1 x2 x4 (none, rho, q)) (b_X4_replan_6 x1 x2 x4 hx1 hx4) FU (x5, x6, σ) e hl ?_
  show Ev M_X4_replan 210 210 _ 63 210 rho e [(9, 0), (9, 0), (9, 0), (9, 0), (9, 0), (9, 0), (9, 0), (9, 0)] []
  replace h : some e = some q := h
  obtain rfl := Option.some.inj h
  exact ev_vret dX4_replan_63 rfl rfl
set_option maxHeartbeats 4000000 in
set_option maxRecDepth 20000 in
theorem c_X4_replan {σ : Mem} {x1 x2 x3 x4 : Int} (hx1 : isB x1) (hx4 : isW x4) {q : Mem} (h : f_X4_replan σ x1 x2 x3 x4 = some q) : Ms yX4_replan M_X4_replan 210 210 [(2, (35 : Int)), (2, x1), (0, x2), (0, x3), (2, x4)] rho σ (none, rho, q) := by
  refine Ms.of 3 (by decide +kernel) rfl (fun z => absurd z (by decide)) (fun _ _ _ => trivial) rfl rfl ?_
  unfold f_X4_replan at h
  show Ev M_X4_replan 210 210 _ 0 210 rho σ [(2, (35 : Int)), (2, x1), (0, x2), (0, x3), (2, x4), (9, 0), (9, 0), (9, 0)] []
  refine ev_iconst dX4_replan_0 (by decide) ?_
  refine ev_istore dX4_replan_1 rfl (by decide) ?_
  show Ev _ _ _ _ 3 _ _ _ [(2, (35 : Int)), (2, x1), (0, x2), (0, x3), (2, x4), (0, (0 : Int)), (9, 0), (9, 0)] _
  refine ev_iload_n dX4_replan_3 rfl ?_
  refine ev_istore dX4_replan_4 rfl (by decide) ?_
  show Ev _ _ _ _ 6 _ _ _ [(2, (35 : Int)), (2, x1), (0, x2), (0, x3), (2, x4), (0, (0 : Int)), (0, x3), (9, 0)] _
  exact ev_sub (L2 := [(2, (35 : Int)), (2, x1), (0, x2), (9, 0), (2, x4), (0, (0 : Int)), (0, x3), (9, 0)]) (e_X4_replan_6 σ x1 x2 x4 (0 : Int) x3 hx1 hx4 h) ⟨.inr rfl, .inr rfl, .inr rfl, .inl rfl, .inr rfl, .inr rfl, .inr rfl, .inl rfl, trivial⟩
set_option maxHeartbeats 4000000 in
set_option maxRecDepth 20000 in
theorem c_X4_ordersOf {σ : Mem} {x1 x2 x3 x4 : Int} (hx1 : isB x1) (hx4 : isW x4) {q : Mem} (h : f_X4_ordersOf σ x1 x2 x3 x4 = some q) : Ms yX4_ordersOf M_X4_ordersOf 210 210 [(2, (35 : Int)), (2, x1), (0, x2), (0, x3), (2, x4)] rho σ (some (2, (36 : Int)), rho, q) := by
  refine Ms.of 1 (by decide +kernel) rfl (fun z => absurd z (by decide)) (fun _ _ _ => trivial) rfl rfl ?_
  unfold f_X4_ordersOf at h
  show Ev M_X4_ordersOf 210 210 _ 0 210 rho σ [(2, (35 : Int)), (2, x1), (0, x2), (0, x3), (2, x4), (9, 0)] []
  refine ev_aload_n dX4_ordersOf_0 rfl (pB hx1).1 ?_
  refine ev_getf (j := 6) (t := 2) (x := (x1 + 7)) dX4_ordersOf_1 cf_X0 wf_X4_45 (sB hx1) (pB hx1).1 (pB hx1).2 rfl (by decide) (rB6 _ hx1) ?_
  refine ev_iload_n dX4_ordersOf_4 rfl ?_
  refine ev_iald dX4_ordersOf_5 (sB6 hx1) (pB6 hx1).1 (pB6 hx1).2 h (fun h => ?_)
  refine ev_aload_n dX4_ordersOf_6 rfl (pB hx1).1 ?_
  refine ev_iload_n dX4_ordersOf_7 rfl ?_
  obtain ⟨v1, hc2, h⟩ := bind_of h
  refine ev_invV_v (k := x1) (av := [(0, x3)]) (st := [(0, (σ (x1 + 7) x2))]) (v := (0, v1)) (τ := σ) dX4_ordersOf_8 ml_X4_48 mv_X0_papersOf (T := TX0) (ci := 0) rfl (sB hx1) (pB hx1).1 (pB hx1).2 rfl ⟨Nat.le_of_ble_eq_true rfl, Nat.le_of_ble_eq_true rfl⟩ (Nat.le_of_ble_eq_true rfl) (c_X0_papersOf hx1 hc2) ?_
  refine ev_iand dX4_ordersOf_11 ?_
  refine ev_istoreG dX4_ordersOf_12 h rfl (by decide) (fun v3 h => ?_)
  show Ev _ _ _ _ 14 _ _ _ [(2, (35 : Int)), (2, x1), (0, x2), (0, x3), (2, x4), (0, v3)] _
  refine ev_aload_n dX4_ordersOf_14 rfl (by decide) ?_
  refine ev_getf (j := 0) (t := 2) (x := (36 : Int)) dX4_ordersOf_15 cf_X4 wf_X4_12 sp35 (by decide) (by decide) rfl (by decide) (rp35_0 _) ?_
  show Ev _ _ _ _ 18 _ _ _ _ _
  refine ev_aload_n dX4_ordersOf_18 rfl (pB hx1).1 ?_
  refine ev_iload_n dX4_ordersOf_19 rfl ?_
  refine ev_iload dX4_ordersOf_20 rfl ?_
  refine ev_aload dX4_ordersOf_22 rfl (pW hx4).1 ?_
  refine ev_getf (j := 2) (t := 2) (x := (x4 + 3)) dX4_ordersOf_24 cf_X8 wf_X4_97 (sW hx4) (pW hx4).1 (pW hx4).2 rfl (by decide) (rW2 _ hx4) ?_
  refine ev_iload_n dX4_ordersOf_27 rfl ?_
  refine ev_iald dX4_ordersOf_28 (sW2 hx4) (pW2 hx4).1 (pW2 hx4).2 h (fun h => ?_)
  refine ev_aload dX4_ordersOf_29 rfl (pW hx4).1 ?_
  refine ev_getf (j := 3) (t := 2) (x := (x4 + 4)) dX4_ordersOf_31 cf_X8 wf_X4_100 (sW hx4) (pW hx4).1 (pW hx4).2 rfl (by decide) (rW3 _ hx4) ?_
  refine ev_iload_n dX4_ordersOf_34 rfl ?_
  refine ev_iald dX4_ordersOf_35 (sW3 hx4) (pW3 hx4).1 (pW3 hx4).2 h (fun h => ?_)
  obtain ⟨σ4, hc5, h⟩ := bind_of h
  refine ev_invV_n (k := (36 : Int)) (av := [(2, x1), (0, x2), (0, v3), (0, (σ (x4 + 3) x3)), (0, (σ (x4 + 4) x3))]) (st := []) (τ := σ4) dX4_ordersOf_36 ml_X4_51 mv_X3_gather (T := TX3) (ci := 2) rfl sp36 (by decide) (by decide) rfl ⟨Nat.le_of_ble_eq_true rfl, Nat.le_of_ble_eq_true rfl⟩ (Nat.le_of_ble_eq_true rfl) (c_X3_gather hx1 hc5) ?_
  show Ev _ _ _ _ 39 _ _ _ _ _
  refine ev_aload_n dX4_ordersOf_39 rfl (by decide) ?_
  refine ev_getf (j := 0) (t := 2) (x := (36 : Int)) dX4_ordersOf_40 cf_X4 wf_X4_12 sp35 (by decide) (by decide) rfl (by decide) (rp35_0 _) ?_
  obtain rfl := Option.some.inj h
  exact ev_aret (cn := "ClashDays$Orders") dX4_ordersOf_43 rfl rfl
def K_X4_clash_23 (x1 x2 x3 x4 x5 : Int) (r : Option V × Mem × Mem) : (Int × Int × Int × Mem) ⊕ ((Int × Mem)) → Prop := Sum.elim (fun a => Ev M_X4_clash 210 210 r 23 210 rho a.2.2.2 [(2, (35 : Int)), (2, x1), (0, x2), (0, x3), (2, x4), (0, x5), (0, a.1), (0, a.2.1), (0, a.2.2.1)] []) (fun e => Ev M_X4_clash 210 210 r 104 210 rho e.2 [(9, 0), (9, 0), (9, 0), (9, 0), (9, 0), (9, 0), (0, e.1), (9, 0), (9, 0)] [])
set_option maxHeartbeats 4000000 in
set_option maxRecDepth 20000 in
theorem e_X4_clash_98 (σ : Mem) (x1 x2 x3 x4 x5 x6 x7 x8 : Int) (hx1 : isB x1) (hx4 : isW x4) {q : ((Int × Int × Int × Mem) ⊕ ((Int × Mem)))} (h : f_X4_clash_98 σ x1 x2 x3 x4 x5 x6 x7 x8 = some q) {r : Option V × Mem × Mem} (K : K_X4_clash_23 x1 x2 x3 x4 x5 r q) : Ev M_X4_clash 210 210 r 98 210 rho σ [(2, (35 : Int)), (2, x1), (0, x2), (0, x3), (2, x4), (0, x5), (0, x6), (0, x7), (0, x8)] [] := by
  unfold f_X4_clash_98 at h
  refine ev_iincG dX4_clash_98 rfl h rfl (fun v12 h => ?_)
  show Ev _ _ _ _ 101 _ _ _ [(2, (35 : Int)), (2, x1), (0, x2), (0, x3), (2, x4), (0, x5), (0, x6), (0, x7), (0, v12)] _
  refine ev_goto (tgt := 23) dX4_clash_101 rfl ?_
  obtain rfl := Option.some.inj h
  exact ev_sub (L2 := [(2, (35 : Int)), (2, x1), (0, x2), (0, x3), (2, x4), (0, x5), (0, x6), (0, x7), (0, v12)]) K ⟨.inr rfl, .inr rfl, .inr rfl, .inr rfl, .inr rfl, .inr rfl, .inr rfl, .inr rfl, .inr rfl, trivial⟩
set_option maxHeartbeats 4000000 in
set_option maxRecDepth 20000 in
theorem b_X4_clash_23 (x1 x2 x3 x4 x5 : Int) (hx1 : isB x1) (hx4 : isW x4) {r : Option V × Mem × Mem} : ∀ a x, f_X4_clash_23B x1 x2 x3 x4 x5 a = some x → K_X4_clash_23 x1 x2 x3 x4 x5 r x → K_X4_clash_23 x1 x2 x3 x4 x5 r (.inl a) := by
  intro a x h K
  obtain ⟨x6, x7, x8, σ⟩ := a
  have h : f_X4_clash_23C x1 x2 x3 x4 x5 x6 x7 x8 σ = some x := h
  unfold f_X4_clash_23C at h
  show Ev M_X4_clash 210 210 r 23 210 rho σ [(2, (35 : Int)), (2, x1), (0, x2), (0, x3), (2, x4), (0, x5), (0, x6), (0, x7), (0, x8)] []
  refine ev_iload dX4_clash_23 rfl ?_
  refine ev_iload dX4_clash_25 rfl ?_
  refine ev_icmp_gt (tgt := 104) dX4_clash_27 rfl h (fun cb h => ?_) (fun cb h => ?_)
  · obtain rfl := Option.some.inj h
    exact ev_sub (L2 := [(9, 0), (9, 0), (9, 0), (9, 0), (9, 0), (9, 0), (0, x6), (9, 0), (9, 0)]) K ⟨.inl rfl, .inl rfl, .inl rfl, .inl rfl, .inl rfl, .inl rfl, .inr rfl, .inl rfl, .inl rfl, trivial⟩
  refine ev_iload dX4_clash_30 rfl ?_
  refine ev_iload dX4_clash_32 rfl ?_
  refine ev_iconst dX4_clash_34 (by decide) ?_
  refine ev_ixor dX4_clash_35 ?_
  refine ev_iand dX4_clash_36 ?_
  refine ev_if_ne (tgt := 98) dX4_clash_37 rfl h (fun cb h => ?_) (fun cb h => ?_)
  · exact ev_sub (L2 := [(2, (35 : Int)), (2, x1), (0, x2), (0, x3), (2, x4), (0, x5), (0, x6), (0, x7), (0, x8)]) (e_X4_clash_98 σ x1 x2 x3 x4 x5 x6 x7 x8 hx1 hx4 h K) ⟨.inr rfl, .inr rfl, .inr rfl, .inr rfl, .inr rfl, .inr rfl, .inr rfl, .inr rfl, .inr rfl, trivial⟩
  refine ev_iload dX4_clash_40 rfl ?_
  obtain ⟨v4, hc5, h⟩ := bind_of h
  refine ev_invS_v (av := [(0, x8)]) (st := []) (v := (0, v4)) (τ := σ) dX4_clash_42 ml_X4_103 mt_J6_bitCount_0f7a4 rfl ⟨Nat.le_of_ble_eq_true rfl, Nat.le_of_ble_eq_true rfl⟩ (Nat.le_of_ble_eq_true rfl) (c_J6_bitCount_0f7a4 hc5) ?_
  refine ev_iload dX4_clash_45 rfl ?_
  refine ev_icmp_ge (tgt := 98) dX4_clash_47 rfl h (fun cb h => ?_) (fun cb h => ?_)
  · exact ev_sub (L2 := [(2, (35 : Int)), (2, x1), (0, x2), (0, x3), (2, x4), (0, x5), (0, x6), (0, x7), (0, x8)]) (e_X4_clash_98 σ x1 x2 x3 x4 x5 x6 x7 x8 hx1 hx4 h K) ⟨.inr rfl, .inr rfl, .inr rfl, .inr rfl, .inr rfl, .inr rfl, .inr rfl, .inr rfl, .inr rfl, trivial⟩
  refine ev_aload_n dX4_clash_50 rfl (by decide) ?_
  refine ev_getf (j := 0) (t := 2) (x := (36 : Int)) dX4_clash_51 cf_X4 wf_X4_12 sp35 (by decide) (by decide) rfl (by decide) (rp35_0 _) ?_
  refine ev_aload_n dX4_clash_54 rfl (pB hx1).1 ?_
  refine ev_iload_n dX4_clash_55 rfl ?_
  refine ev_iload dX4_clash_56 rfl ?_
  refine ev_aload dX4_clash_58 rfl (pW hx4).1 ?_
  refine ev_getf (j := 2) (t := 2) (x := (x4 + 3)) dX4_clash_60 cf_X8 wf_X4_97 (sW hx4) (pW hx4).1 (pW hx4).2 rfl (by decide) (rW2 _ hx4) ?_
  refine ev_iload_n dX4_clash_63 rfl ?_
  refine ev_iald dX4_clash_64 (sW2 hx4) (pW2 hx4).1 (pW2 hx4).2 h (fun h => ?_)
  refine ev_aload dX4_clash_65 rfl (pW hx4).1 ?_
  refine ev_getf (j := 3) (t := 2) (x := (x4 + 4)) dX4_clash_67 cf_X8 wf_X4_100 (sW hx4) (pW hx4).1 (pW hx4).2 rfl (by decide) (rW3 _ hx4) ?_
  show Ev _ _ _ _ 70 _ _ _ _ _
  refine ev_iload_n dX4_clash_70 rfl ?_
  refine ev_iald dX4_clash_71 (sW3 hx4) (pW3 hx4).1 (pW3 hx4).2 h (fun h => ?_)
  obtain ⟨σ6, hc7, h⟩ := bind_of h
  refine ev_invV_n (k := (36 : Int)) (av := [(2, x1), (0, x2), (0, x8), (0, (σ (x4 + 3) x3)), (0, (σ (x4 + 4) x3))]) (st := []) (τ := σ6) dX4_clash_72 ml_X4_51 mv_X3_gather (T := TX3) (ci := 2) rfl sp36 (by decide) (by decide) rfl ⟨Nat.le_of_ble_eq_true rfl, Nat.le_of_ble_eq_true rfl⟩ (Nat.le_of_ble_eq_true rfl) (c_X3_gather hx1 hc7) ?_
  refine ev_aload_n dX4_clash_75 rfl (by decide) ?_
  refine ev_getf (j := 0) (t := 2) (x := (36 : Int)) dX4_clash_76 cf_X4 wf_X4_12 sp35 (by decide) (by decide) rfl (by decide) (rp35_0 _) ?_
  refine ev_iconst dX4_clash_79 (by decide) ?_
  refine ev_lconst (x := (0 : Int)) dX4_clash_80 (by decide) (by decide) ?_
  obtain ⟨v8, hc9, h⟩ := bind_of h
  refine ev_invV_v (k := (36 : Int)) (av := [(0, (0 : Int)), (1, (0 : Int))]) (st := []) (v := (0, v8.1)) (τ := v8.2) dX4_clash_81 ml_X4_55 mv_X3_search (T := TX3) (ci := 2) rfl sp36 (by decide) (by decide) rfl ⟨Nat.le_of_ble_eq_true rfl, Nat.le_of_ble_eq_true rfl⟩ (Nat.le_of_ble_eq_true rfl) (c_X3_search hc9) ?_
  refine ev_if_ne (tgt := 98) dX4_clash_84 rfl h (fun cb h => ?_) (fun cb h => ?_)
  · exact ev_sub (L2 := [(2, (35 : Int)), (2, x1), (0, x2), (0, x3), (2, x4), (0, x5), (0, x6), (0, x7), (0, x8)]) (e_X4_clash_98 v8.2 x1 x2 x3 x4 x5 x6 x7 x8 hx1 hx4 h K) ⟨.inr rfl, .inr rfl, .inr rfl, .inr rfl, .inr rfl, .inr rfl, .inr rfl, .inr rfl, .inr rfl, trivial⟩
  refine ev_iload dX4_clash_87 rfl ?_
  refine ev_istore dX4_clash_89 rfl (by decide) ?_
  show Ev _ _ _ _ 91 _ _ _ [(2, (35 : Int)), (2, x1), (0, x2), (0, x3), (2, x4), (0, x5), (0, x8), (0, x7), (0, x8)] _
  refine ev_iload dX4_clash_91 rfl ?_
  obtain ⟨v10, hc11, h⟩ := bind_of h
  refine ev_invS_v (av := [(0, x8)]) (st := []) (v := (0, v10)) (τ := v8.2) dX4_clash_93 ml_X4_103 mt_J6_bitCount_0f7a4 rfl ⟨Nat.le_of_ble_eq_true rfl, Nat.le_of_ble_eq_true rfl⟩ (Nat.le_of_ble_eq_true rfl) (c_J6_bitCount_0f7a4 hc11) ?_
  refine ev_istore dX4_clash_96 rfl (by decide) ?_
  show Ev _ _ _ _ 98 _ _ _ [(2, (35 : Int)), (2, x1), (0, x2), (0, x3), (2, x4), (0, x5), (0, x8), (0, v10), (0, x8)] _
  exact ev_sub (L2 := [(2, (35 : Int)), (2, x1), (0, x2), (0, x3), (2, x4), (0, x5), (0, x8), (0, v10), (0, x8)]) (e_X4_clash_98 v8.2 x1 x2 x3 x4 x5 x8 v10 x8 hx1 hx4 h K) ⟨.inr rfl, .inr rfl, .inr rfl, .inr rfl, .inr rfl, .inr rfl, .inr rfl, .inr rfl, .inr rfl, trivial⟩
set_option maxHeartbeats 4000000 in
set_option maxRecDepth 20000 in
theorem e_X4_clash_23 (σ : Mem) (x1 x2 x3 x4 x5 x6 x7 x8 : Int) (hx1 : isB x1) (hx4 : isW x4) {q : (Int × Mem)} (h : f_X4_clash_23 σ x1 x2 x3 x4 x5 x6 x7 x8 = some q) : Ev M_X4_clash 210 210 (some (0, q.1), rho, q.2) 23 210 rho σ [(2, (35 : Int)), (2, x1), (0, x2), (0, x3), (2, x4), (0, x5), (0, x6), (0, x7), (0, x8)] [] := by
  unfold f_X4_clash_23 at h
  obtain ⟨e, hl, h⟩ := bind_of h
  refine loop_ev (K := K_X4_clash_23 x1 x2 x3 x4 x5 (some (0, q.1), rho, q.2)) (b_X4_clash_23 x1 x2 x3 x4 x5 hx1 hx4) FU (x6, x7, x8, σ) e hl ?_
  show Ev M_X4_clash 210 210 _ 104 210 rho e.2 [(9, 0), (9, 0), (9, 0), (9, 0), (9, 0), (9, 0), (0, e.1), (9, 0), (9, 0)] []
  replace h : some (e.1, e.2) = some q := h
  refine ev_iload dX4_clash_104 rfl ?_
  obtain rfl := Option.some.inj h
  dsimp only
  exact ev_iret dX4_clash_106 rfl rfl
set_option maxHeartbeats 4000000 in
set_option maxRecDepth 20000 in
theorem c_X4_clash {σ : Mem} {x1 x2 x3 x4 : Int} (hx1 : isB x1) (hx4 : isW x4) {q : (Int × Mem)} (h : f_X4_clash σ x1 x2 x3 x4 = some q) : Ms yX4_clash M_X4_clash 210 210 [(2, (35 : Int)), (2, x1), (0, x2), (0, x3), (2, x4)] rho σ (some (0, q.1), rho, q.2) := by
  refine Ms.of 4 (by decide +kernel) rfl (fun z => absurd z (by decide)) (fun _ _ _ => trivial) rfl rfl ?_
  unfold f_X4_clash at h
  show Ev M_X4_clash 210 210 _ 0 210 rho σ [(2, (35 : Int)), (2, x1), (0, x2), (0, x3), (2, x4), (9, 0), (9, 0), (9, 0), (9, 0)] []
  refine ev_aload_n dX4_clash_0 rfl (pB hx1).1 ?_
  refine ev_getf (j := 6) (t := 2) (x := (x1 + 7)) dX4_clash_1 cf_X0 wf_X4_45 (sB hx1) (pB hx1).1 (pB hx1).2 rfl (by decide) (rB6 _ hx1) ?_
  refine ev_iload_n dX4_clash_4 rfl ?_
  refine ev_iald dX4_clash_5 (sB6 hx1) (pB6 hx1).1 (pB6 hx1).2 h (fun h => ?_)
  refine ev_aload_n dX4_clash_6 rfl (pB hx1).1 ?_
  refine ev_iload_n dX4_clash_7 rfl ?_
  obtain ⟨v1, hc2, h⟩ := bind_of h
  refine ev_invV_v (k := x1) (av := [(0, x3)]) (st := [(0, (σ (x1 + 7) x2))]) (v := (0, v1)) (τ := σ) dX4_clash_8 ml_X4_48 mv_X0_papersOf (T := TX0) (ci := 0) rfl (sB hx1) (pB hx1).1 (pB hx1).2 rfl ⟨Nat.le_of_ble_eq_true rfl, Nat.le_of_ble_eq_true rfl⟩ (Nat.le_of_ble_eq_true rfl) (c_X0_papersOf hx1 hc2) ?_
  refine ev_iand dX4_clash_11 ?_
  refine ev_istoreG dX4_clash_12 h rfl (by decide) (fun v3 h => ?_)
  show Ev _ _ _ _ 14 _ _ _ [(2, (35 : Int)), (2, x1), (0, x2), (0, x3), (2, x4), (0, v3), (9, 0), (9, 0), (9, 0)] _
  refine ev_iconst dX4_clash_14 (by decide) ?_
  refine ev_istore dX4_clash_15 rfl (by decide) ?_
  show Ev _ _ _ _ 17 _ _ _ [(2, (35 : Int)), (2, x1), (0, x2), (0, x3), (2, x4), (0, v3), (0, (0 : Int)), (9, 0), (9, 0)] _
  show Ev _ _ _ _ 17 _ _ _ _ _
  refine ev_iconst dX4_clash_17 (by decide) ?_
  refine ev_istore dX4_clash_18 rfl (by decide) ?_
  show Ev _ _ _ _ 20 _ _ _ [(2, (35 : Int)), (2, x1), (0, x2), (0, x3), (2, x4), (0, v3), (0, (0 : Int)), (0, (5 : Int)), (9, 0)] _
  refine ev_iconst dX4_clash_20 (by decide) ?_
  refine ev_istore dX4_clash_21 rfl (by decide) ?_
  show Ev _ _ _ _ 23 _ _ _ [(2, (35 : Int)), (2, x1), (0, x2), (0, x3), (2, x4), (0, v3), (0, (0 : Int)), (0, (5 : Int)), (0, (1 : Int))] _
  exact ev_sub (L2 := [(2, (35 : Int)), (2, x1), (0, x2), (0, x3), (2, x4), (0, v3), (0, (0 : Int)), (0, (5 : Int)), (0, (1 : Int))]) (e_X4_clash_23 σ x1 x2 x3 x4 v3 (0 : Int) (5 : Int) (1 : Int) hx1 hx4 h) ⟨.inr rfl, .inr rfl, .inr rfl, .inr rfl, .inr rfl, .inr rfl, .inr rfl, .inr rfl, .inr rfl, trivial⟩
set_option maxHeartbeats 4000000 in
set_option maxRecDepth 20000 in
theorem c_X5_piecesOf {σ : Mem} {x1 : Int}  {q : Int} (h : f_X5_piecesOf σ x1 = some q) : Ms yX5_piecesOf M_X5_piecesOf 210 210 [(2, (163 : Int)), (0, x1)] rho σ (some (0, q), rho, σ) := by
  refine Ms.of 0 (by decide +kernel) rfl (fun z => absurd z (by decide)) (fun _ _ _ => trivial) rfl rfl ?_
  unfold f_X5_piecesOf at h
  show Ev M_X5_piecesOf 210 210 _ 0 210 rho σ [(2, (163 : Int)), (0, x1)] []
  refine ev_aload_n dX5_piecesOf_0 rfl (by decide) ?_
  refine ev_getf (j := 3) (t := 2) (x := (167 : Int)) dX5_piecesOf_1 cf_X5 wf_X5_22 sp163 (by decide) (by decide) rfl (by decide) (rp163_3 _) ?_
  refine ev_iload_n dX5_piecesOf_4 rfl ?_
  refine ev_iald dX5_piecesOf_5 sp167 (by decide) (by decide) h (fun h => ?_)
  obtain rfl := Option.some.inj h
  exact ev_iret dX5_piecesOf_6 rfl rfl
set_option maxHeartbeats 4000000 in
set_option maxRecDepth 20000 in
theorem c_X5_movesOf {σ : Mem} {x1 : Int}  {q : Int} (h : f_X5_movesOf σ x1 = some q) : Ms yX5_movesOf M_X5_movesOf 210 210 [(2, (163 : Int)), (0, x1)] rho σ (some (0, q), rho, σ) := by
  refine Ms.of 0 (by decide +kernel) rfl (fun z => absurd z (by decide)) (fun _ _ _ => trivial) rfl rfl ?_
  unfold f_X5_movesOf at h
  show Ev M_X5_movesOf 210 210 _ 0 210 rho σ [(2, (163 : Int)), (0, x1)] []
  refine ev_aload_n dX5_movesOf_0 rfl (by decide) ?_
  refine ev_getf (j := 4) (t := 2) (x := (168 : Int)) dX5_movesOf_1 cf_X5 wf_X5_25 sp163 (by decide) (by decide) rfl (by decide) (rp163_4 _) ?_
  refine ev_iload_n dX5_movesOf_4 rfl ?_
  refine ev_iald dX5_movesOf_5 sp168 (by decide) (by decide) h (fun h => ?_)
  obtain rfl := Option.some.inj h
  exact ev_iret dX5_movesOf_6 rfl rfl
set_option maxHeartbeats 4000000 in
set_option maxRecDepth 20000 in
theorem c_X5_roomAt {σ : Mem} {x1 x2 : Int}  {q : Int} (h : f_X5_roomAt σ x1 x2 = some q) : Ms yX5_roomAt M_X5_roomAt 210 210 [(2, (163 : Int)), (0, x1), (0, x2)] rho σ (some (0, q), rho, σ) := by
  refine Ms.of 0 (by decide +kernel) rfl (fun z => absurd z (by decide)) (fun _ _ _ => trivial) rfl rfl ?_
  unfold f_X5_roomAt at h
  show Ev M_X5_roomAt 210 210 _ 0 210 rho σ [(2, (163 : Int)), (0, x1), (0, x2)] []
  refine ev_iload_n dX5_roomAt_0 rfl ?_
  refine ev_if_lt (tgt := 24) dX5_roomAt_1 rfl h (fun cb h => ?_) (fun cb h => ?_)
  · refine ev_iconst dX5_roomAt_24 (by decide) ?_
    obtain rfl := Option.some.inj h
    exact ev_iret dX5_roomAt_25 rfl rfl
  refine ev_iload_n dX5_roomAt_4 rfl ?_
  refine ev_bipush dX5_roomAt_5 (by decide) (by decide) ?_
  refine ev_icmp_ge (tgt := 24) dX5_roomAt_7 rfl h (fun cb h => ?_) (fun cb h => ?_)
  · refine ev_iconst dX5_roomAt_24 (by decide) ?_
    obtain rfl := Option.some.inj h
    exact ev_iret dX5_roomAt_25 rfl rfl
  refine ev_aload_n dX5_roomAt_10 rfl (by decide) ?_
  refine ev_getf (j := 5) (t := 2) (x := (169 : Int)) dX5_roomAt_11 cf_X5 wf_X5_28 sp163 (by decide) (by decide) rfl (by decide) (rp163_5 _) ?_
  refine ev_iload_n dX5_roomAt_14 rfl ?_
  refine ev_bipush dX5_roomAt_15 (by decide) (by decide) ?_
  refine ev_imul dX5_roomAt_17 ?_
  refine ev_iload_n dX5_roomAt_18 rfl ?_
  refine ev_iadd dX5_roomAt_19 ?_
  refine ev_iald dX5_roomAt_20 sp169 (by decide) (by decide) h (fun h => ?_)
  refine ev_goto (tgt := 25) dX5_roomAt_21 rfl ?_
  obtain rfl := Option.some.inj h
  exact ev_iret dX5_roomAt_25 rfl rfl
set_option maxHeartbeats 4000000 in
set_option maxRecDepth 20000 in
theorem c_X5_usedAt {σ : Mem} {x1 x2 : Int}  {q : Int} (h : f_X5_usedAt σ x1 x2 = some q) : Ms yX5_usedAt M_X5_usedAt 210 210 [(2, (163 : Int)), (0, x1), (0, x2)] rho σ (some (0, q), rho, σ) := by
  refine Ms.of 0 (by decide +kernel) rfl (fun z => absurd z (by decide)) (fun _ _ _ => trivial) rfl rfl ?_
  unfold f_X5_usedAt at h
  show Ev M_X5_usedAt 210 210 _ 0 210 rho σ [(2, (163 : Int)), (0, x1), (0, x2)] []
  refine ev_aload_n dX5_usedAt_0 rfl (by decide) ?_
  refine ev_getf (j := 0) (t := 2) (x := (164 : Int)) dX5_usedAt_1 cf_X5 wf_X5_9 sp163 (by decide) (by decide) rfl (by decide) (rp163_0 _) ?_
  refine ev_iload_n dX5_usedAt_4 rfl ?_
  refine ev_bipush dX5_usedAt_5 (by decide) (by decide) ?_
  refine ev_imul dX5_usedAt_7 ?_
  refine ev_iload_n dX5_usedAt_8 rfl ?_
  refine ev_iadd dX5_usedAt_9 ?_
  refine ev_iald dX5_usedAt_10 sp164 (by decide) (by decide) h (fun h => ?_)
  obtain rfl := Option.some.inj h
  exact ev_iret dX5_usedAt_11 rfl rfl
def K_X8_pieceFrom_26 (σ : Mem) (x0 x1 x2 : Int) (r : Option V × Mem × Mem) : (Int) ⊕ ((Int) ⊕ (Unit)) → Prop := Sum.elim (fun a => Ev M_X8_pieceFrom 210 210 r 26 210 rho σ [(2, x0), (0, x1), (0, x2), (0, a), (9, 0)] []) (Sum.elim (fun e => Ev M_X8_pieceFrom 210 210 r 54 210 rho σ [(2, x0), (9, 0), (0, x2), (9, 0), (0, e)] []) (fun e => Ev M_X8_pieceFrom 210 210 r 72 210 rho σ [(2, x0), (0, x1), (0, x2), (9, 0), (9, 0)] []))
set_option maxHeartbeats 4000000 in
set_option maxRecDepth 20000 in
theorem e_X8_pieceFrom_54 (σ : Mem) (x0 x2 x4 : Int) (hx0 : isW x0) {q : Int} (h : f_X8_pieceFrom_54 σ x0 x2 x4 = some q) : Ev M_X8_pieceFrom 210 210 (some (1, q), rho, σ) 54 210 rho σ [(2, x0), (9, 0), (0, x2), (9, 0), (0, x4)] [] := by
  unfold f_X8_pieceFrom_54 at h
  refine ev_iload_n dX8_pieceFrom_54 rfl ?_
  refine ev_aload_n dX8_pieceFrom_55 rfl (pW hx0).1 ?_
  refine ev_getf (j := 8) (t := 2) (x := (x0 + 9)) dX8_pieceFrom_56 cf_X8 wf_X8_38 (sW hx0) (pW hx0).1 (pW hx0).2 rfl (by decide) (rW8 _ hx0) ?_
  refine ev_iload dX8_pieceFrom_59 rfl ?_
  refine ev_iald dX8_pieceFrom_61 (sW8 hx0) (pW8 hx0).1 (pW8 hx0).2 h (fun h => ?_)
  obtain ⟨v5, hc6, h⟩ := bind_of h
  refine ev_invSN_v (av := [(0, x2), (0, (σ (x0 + 9) x4))]) (st := []) (v := (1, v5)) (τ := σ) dX8_pieceFrom_62 ml_X8_95 mt_X10_span rfl ⟨Nat.le_of_ble_eq_true rfl, Nat.le_of_ble_eq_true rfl⟩ (Nat.le_of_ble_eq_true rfl) (c_X10_span hc6) ?_
  obtain rfl := Option.some.inj h
  exact ev_lret dX8_pieceFrom_65 rfl rfl
set_option maxHeartbeats 4000000 in
set_option maxRecDepth 20000 in
theorem e_X8_pieceFrom_72 (σ : Mem) (x0 x1 x2 : Int) (hx0 : isW x0) {q : Int} (h : f_X8_pieceFrom_72 σ x0 x1 x2 = some q) : Ev M_X8_pieceFrom 210 210 (some (1, q), rho, σ) 72 210 rho σ [(2, x0), (0, x1), (0, x2), (9, 0), (9, 0)] [] := by
  unfold f_X8_pieceFrom_72 at h
  refine ev_iload_n dX8_pieceFrom_72 rfl ?_
  refine ev_iload_n dX8_pieceFrom_73 rfl ?_
  refine ev_aload_n dX8_pieceFrom_74 rfl (pW hx0).1 ?_
  refine ev_iload_n dX8_pieceFrom_75 rfl ?_
  refine ev_iload_n dX8_pieceFrom_76 rfl ?_
  obtain ⟨v7, hc8, h⟩ := bind_of h
  refine ev_invV_v (k := x0) (av := [(0, x1), (0, x2)]) (st := [(0, x2), (0, x2)]) (v := (0, v7)) (τ := σ) dX8_pieceFrom_77 ml_X8_98 mv_X8_dutyFrom (T := TX8) (ci := 7) rfl (sW hx0) (pW hx0).1 (pW hx0).2 rfl ⟨Nat.le_of_ble_eq_true rfl, Nat.le_of_ble_eq_true rfl⟩ (Nat.le_of_ble_eq_true rfl) (c_X8_dutyFrom hx0 hc8) ?_
  refine ev_iadd dX8_pieceFrom_80 ?_
  obtain ⟨v9, hc10, h⟩ := bind_of h
  refine ev_invSN_v (av := [(0, x2), (0, (jadd x2 v7))]) (st := []) (v := (1, v9)) (τ := σ) dX8_pieceFrom_81 ml_X8_95 mt_X10_span rfl ⟨Nat.le_of_ble_eq_true rfl, Nat.le_of_ble_eq_true rfl⟩ (Nat.le_of_ble_eq_true rfl) (c_X10_span hc10) ?_
  obtain rfl := Option.some.inj h
  exact ev_lret dX8_pieceFrom_84 rfl rfl
set_option maxHeartbeats 4000000 in
set_option maxRecDepth 20000 in
theorem b_X8_pieceFrom_26 (σ : Mem) (x0 x1 x2 : Int) (hx0 : isW x0) {r : Option V × Mem × Mem} : ∀ a x, f_X8_pieceFrom_26B σ x0 x1 x2 a = some x → K_X8_pieceFrom_26 σ x0 x1 x2 r x → K_X8_pieceFrom_26 σ x0 x1 x2 r (.inl a) := by
  intro a x h K
  have ⟨x3, ea⟩ : ∃ z, z = a := ⟨_, rfl⟩
  subst ea
  have h : f_X8_pieceFrom_26C σ x0 x1 x2 x3 = some x := h
  unfold f_X8_pieceFrom_26C at h
  show Ev M_X8_pieceFrom 210 210 r 26 210 rho σ [(2, x0), (0, x1), (0, x2), (0, x3), (9, 0)] []
  refine ev_iload_n dX8_pieceFrom_26 rfl ?_
  refine ev_aload_n dX8_pieceFrom_27 rfl (pW hx0).1 ?_
  refine ev_getf (j := 4) (t := 2) (x := (x0 + 5)) dX8_pieceFrom_28 cf_X8 wf_X8_25 (sW hx0) (pW hx0).1 (pW hx0).2 rfl (by decide) (rW4 _ hx0) ?_
  refine ev_iload_n dX8_pieceFrom_31 rfl ?_
  refine ev_iald dX8_pieceFrom_32 (sW4 hx0) (pW4 hx0).1 (pW4 hx0).2 h (fun h => ?_)
  refine ev_icmp_ge (tgt := 72) dX8_pieceFrom_33 rfl h (fun cb h => ?_) (fun cb h => ?_)
  · obtain rfl := Option.some.inj h
    exact ev_sub (L2 := [(2, x0), (0, x1), (0, x2), (9, 0), (9, 0)]) K ⟨.inr rfl, .inr rfl, .inr rfl, .inl rfl, .inl rfl, trivial⟩
  refine ev_iload_n dX8_pieceFrom_36 rfl ?_
  refine ev_iconst dX8_pieceFrom_37 (by decide) ?_
  refine ev_imul dX8_pieceFrom_38 ?_
  refine ev_iload_n dX8_pieceFrom_39 rfl ?_
  refine ev_iadd dX8_pieceFrom_40 ?_
  refine ev_istoreG dX8_pieceFrom_41 h rfl (by decide) (fun v3 h => ?_)
  show Ev _ _ _ _ 43 _ _ _ [(2, x0), (0, x1), (0, x2), (0, x3), (0, v3)] _
  refine ev_aload_n dX8_pieceFrom_43 rfl (pW hx0).1 ?_
  refine ev_getf (j := 7) (t := 2) (x := (x0 + 8)) dX8_pieceFrom_44 cf_X8 wf_X8_35 (sW hx0) (pW hx0).1 (pW hx0).2 rfl (by decide) (rW7 _ hx0) ?_
  refine ev_iload dX8_pieceFrom_47 rfl ?_
  refine ev_iald dX8_pieceFrom_49 (sW7 hx0) (pW7 hx0).1 (pW7 hx0).2 h (fun h => ?_)
  refine ev_iload_n dX8_pieceFrom_50 rfl ?_
  show Ev _ _ _ _ 51 _ _ _ _ _
  refine ev_icmp_ne (tgt := 66) dX8_pieceFrom_51 rfl h (fun cb h => ?_) (fun cb h => ?_)
  · refine ev_iincG dX8_pieceFrom_66 rfl h rfl (fun v4 h => ?_)
    show Ev _ _ _ _ 69 _ _ _ [(2, x0), (0, x1), (0, x2), (0, v4), (0, v3)] _
    refine ev_goto (tgt := 26) dX8_pieceFrom_69 rfl ?_
    obtain rfl := Option.some.inj h
    exact ev_sub (L2 := [(2, x0), (0, x1), (0, x2), (0, v4), (9, 0)]) K ⟨.inr rfl, .inr rfl, .inr rfl, .inr rfl, .inl rfl, trivial⟩
  obtain rfl := Option.some.inj h
  exact ev_sub (L2 := [(2, x0), (9, 0), (0, x2), (9, 0), (0, v3)]) K ⟨.inr rfl, .inl rfl, .inr rfl, .inl rfl, .inr rfl, trivial⟩
set_option maxHeartbeats 4000000 in
set_option maxRecDepth 20000 in
theorem e_X8_pieceFrom_26 (σ : Mem) (x0 x1 x2 x3 : Int) (hx0 : isW x0) {q : Int} (h : f_X8_pieceFrom_26 σ x0 x1 x2 x3 = some q) : Ev M_X8_pieceFrom 210 210 (some (1, q), rho, σ) 26 210 rho σ [(2, x0), (0, x1), (0, x2), (0, x3), (9, 0)] [] := by
  unfold f_X8_pieceFrom_26 at h
  obtain ⟨e, hl, h⟩ := bind_of h
  refine loop_ev (K := K_X8_pieceFrom_26 σ x0 x1 x2 (some (1, q), rho, σ)) (b_X8_pieceFrom_26 σ x0 x1 x2 hx0) FU x3 e hl ?_
  rcases e with e | e
  · show Ev M_X8_pieceFrom 210 210 _ 54 210 rho σ [(2, x0), (9, 0), (0, x2), (9, 0), (0, e)] []
    replace h : f_X8_pieceFrom_54 σ x0 x2 e = some q := h
    exact ev_sub (L2 := [(2, x0), (9, 0), (0, x2), (9, 0), (0, e)]) (e_X8_pieceFrom_54 σ x0 x2 e hx0 h) ⟨.inr rfl, .inl rfl, .inr rfl, .inl rfl, .inr rfl, trivial⟩
  · show Ev M_X8_pieceFrom 210 210 _ 72 210 rho σ [(2, x0), (0, x1), (0, x2), (9, 0), (9, 0)] []
    replace h : f_X8_pieceFrom_72 σ x0 x1 x2 = some q := h
    exact ev_sub (L2 := [(2, x0), (0, x1), (0, x2), (9, 0), (9, 0)]) (e_X8_pieceFrom_72 σ x0 x1 x2 hx0 h) ⟨.inr rfl, .inr rfl, .inr rfl, .inl rfl, .inl rfl, trivial⟩
set_option maxHeartbeats 4000000 in
set_option maxRecDepth 20000 in
theorem e_X8_pieceFrom_24 (σ : Mem) (x0 x1 x2 : Int) (hx0 : isW x0) {q : Int} (h : f_X8_pieceFrom_24 σ x0 x1 x2 = some q) : Ev M_X8_pieceFrom 210 210 (some (1, q), rho, σ) 24 210 rho σ [(2, x0), (0, x1), (0, x2), (9, 0), (9, 0)] [] := by
  unfold f_X8_pieceFrom_24 at h
  refine ev_iconst dX8_pieceFrom_24 (by decide) ?_
  refine ev_istore_n dX8_pieceFrom_25 rfl (by decide) ?_
  show Ev _ _ _ _ 26 _ _ _ [(2, x0), (0, x1), (0, x2), (0, (0 : Int)), (9, 0)] _
  exact ev_sub (L2 := [(2, x0), (0, x1), (0, x2), (0, (0 : Int)), (9, 0)]) (e_X8_pieceFrom_26 σ x0 x1 x2 (0 : Int) hx0 h) ⟨.inr rfl, .inr rfl, .inr rfl, .inr rfl, .inl rfl, trivial⟩
set_option maxHeartbeats 4000000 in
set_option maxRecDepth 20000 in
theorem c_X8_pieceFrom {σ : Mem} {x0 x1 x2 : Int} (hx0 : isW x0) {q : Int} (h : f_X8_pieceFrom σ x0 x1 x2 = some q) : Ms yX8_pieceFrom M_X8_pieceFrom 210 210 [(2, x0), (0, x1), (0, x2)] rho σ (some (1, q), rho, σ) := by
  refine Ms.of 2 (by decide +kernel) rfl (fun z => absurd z (by decide)) (fun _ _ _ => trivial) rfl rfl ?_
  unfold f_X8_pieceFrom at h
  show Ev M_X8_pieceFrom 210 210 _ 0 210 rho σ [(2, x0), (0, x1), (0, x2), (9, 0), (9, 0)] []
  refine ev_iload_n dX8_pieceFrom_0 rfl ?_
  refine ev_if_ne (tgt := 24) dX8_pieceFrom_1 rfl h (fun cb h => ?_) (fun cb h => ?_)
  · exact ev_sub (L2 := [(2, x0), (0, x1), (0, x2), (9, 0), (9, 0)]) (e_X8_pieceFrom_24 σ x0 x1 x2 hx0 h) ⟨.inr rfl, .inr rfl, .inr rfl, .inl rfl, .inl rfl, trivial⟩
  refine ev_aload_n dX8_pieceFrom_4 rfl (pW hx0).1 ?_
  refine ev_getf (j := 3) (t := 2) (x := (x0 + 4)) dX8_pieceFrom_5 cf_X8 wf_X8_22 (sW hx0) (pW hx0).1 (pW hx0).2 rfl (by decide) (rW3 _ hx0) ?_
  refine ev_iload_n dX8_pieceFrom_8 rfl ?_
  refine ev_iald dX8_pieceFrom_9 (sW3 hx0) (pW3 hx0).1 (pW3 hx0).2 h (fun h => ?_)
  refine ev_if_le (tgt := 24) dX8_pieceFrom_10 rfl h (fun cb h => ?_) (fun cb h => ?_)
  · exact ev_sub (L2 := [(2, x0), (0, x1), (0, x2), (9, 0), (9, 0)]) (e_X8_pieceFrom_24 σ x0 x1 x2 hx0 h) ⟨.inr rfl, .inr rfl, .inr rfl, .inl rfl, .inl rfl, trivial⟩
  refine ev_iconst dX8_pieceFrom_13 (by decide) ?_
  refine ev_aload_n dX8_pieceFrom_14 rfl (pW hx0).1 ?_
  refine ev_getf (j := 3) (t := 2) (x := (x0 + 4)) dX8_pieceFrom_15 cf_X8 wf_X8_22 (sW hx0) (pW hx0).1 (pW hx0).2 rfl (by decide) (rW3 _ hx0) ?_
  refine ev_iload_n dX8_pieceFrom_18 rfl ?_
  refine ev_iald dX8_pieceFrom_19 (sW3 hx0) (pW3 hx0).1 (pW3 hx0).2 h (fun h => ?_)
  obtain ⟨v1, hc2, h⟩ := bind_of h
  refine ev_invSN_v (av := [(0, (0 : Int)), (0, (σ (x0 + 4) x1))]) (st := []) (v := (1, v1)) (τ := σ) dX8_pieceFrom_20 ml_X8_95 mt_X10_span rfl ⟨Nat.le_of_ble_eq_true rfl, Nat.le_of_ble_eq_true rfl⟩ (Nat.le_of_ble_eq_true rfl) (c_X10_span hc2) ?_
  obtain rfl := Option.some.inj h
  exact ev_lret dX8_pieceFrom_23 rfl rfl
def K_X8_piecesOf_5 (x0 x1 : Int) (r : Option V × Mem × Mem) : (Int × Int × Mem) ⊕ ((Int × Mem)) → Prop := Sum.elim (fun a => Ev M_X8_piecesOf 210 210 r 5 210 rho a.2.2 [(2, x0), (0, x1), (2, (166 : Int)), (0, a.1), (0, a.2.1), (9, 0), (9, 0)] []) (fun e => Ev M_X8_piecesOf 210 210 r 48 210 rho e.2 [(9, 0), (9, 0), (9, 0), (0, e.1), (9, 0), (9, 0), (9, 0)] [])
set_option maxHeartbeats 4000000 in
set_option maxRecDepth 20000 in
theorem e_X8_piecesOf_42 (σ : Mem) (x0 x1 x3 x4 : Int) (hx0 : isW x0) {q : ((Int × Int × Mem) ⊕ ((Int × Mem)))} (h : f_X8_piecesOf_42 σ x0 x1 x3 x4 = some q) {r : Option V × Mem × Mem} (K : K_X8_piecesOf_5 x0 x1 r q) : Ev M_X8_piecesOf 210 210 r 42 210 rho σ [(2, x0), (0, x1), (2, (166 : Int)), (0, x3), (0, x4), (9, 0), (9, 0)] [] := by
  unfold f_X8_piecesOf_42 at h
  refine ev_iincG dX8_piecesOf_42 rfl h rfl (fun v5 h => ?_)
  show Ev _ _ _ _ 45 _ _ _ [(2, x0), (0, x1), (2, (166 : Int)), (0, x3), (0, v5), (9, 0), (9, 0)] _
  refine ev_goto (tgt := 5) dX8_piecesOf_45 rfl ?_
  obtain rfl := Option.some.inj h
  exact ev_sub (L2 := [(2, x0), (0, x1), (2, (166 : Int)), (0, x3), (0, v5), (9, 0), (9, 0)]) K ⟨.inr rfl, .inr rfl, .inr rfl, .inr rfl, .inr rfl, .inl rfl, .inl rfl, trivial⟩
set_option maxHeartbeats 4000000 in
set_option maxRecDepth 20000 in
theorem b_X8_piecesOf_5 (x0 x1 : Int) (hx0 : isW x0) {r : Option V × Mem × Mem} : ∀ a x, f_X8_piecesOf_5B x0 x1 a = some x → K_X8_piecesOf_5 x0 x1 r x → K_X8_piecesOf_5 x0 x1 r (.inl a) := by
  intro a x h K
  obtain ⟨x3, x4, σ⟩ := a
  have h : f_X8_piecesOf_5C x0 x1 x3 x4 σ = some x := h
  unfold f_X8_piecesOf_5C at h
  show Ev M_X8_piecesOf 210 210 r 5 210 rho σ [(2, x0), (0, x1), (2, (166 : Int)), (0, x3), (0, x4), (9, 0), (9, 0)] []
  refine ev_iload dX8_piecesOf_5 rfl ?_
  refine ev_bipush dX8_piecesOf_7 (by decide) (by decide) ?_
  refine ev_icmp_ge (tgt := 48) dX8_piecesOf_9 rfl h (fun cb h => ?_) (fun cb h => ?_)
  · obtain rfl := Option.some.inj h
    exact ev_sub (L2 := [(9, 0), (9, 0), (9, 0), (0, x3), (9, 0), (9, 0), (9, 0)]) K ⟨.inl rfl, .inl rfl, .inl rfl, .inr rfl, .inl rfl, .inl rfl, .inl rfl, trivial⟩
  refine ev_aload_n dX8_piecesOf_12 rfl (pW hx0).1 ?_
  refine ev_iload_n dX8_piecesOf_13 rfl ?_
  refine ev_iload dX8_piecesOf_14 rfl ?_
  obtain ⟨v1, hc2, h⟩ := bind_of h
  refine ev_invV_v (k := x0) (av := [(0, x1), (0, x4)]) (st := []) (v := (1, v1)) (τ := σ) dX8_piecesOf_16 ml_X8_91 mv_X8_pieceFrom (T := TX8) (ci := 7) rfl (sW hx0) (pW hx0).1 (pW hx0).2 rfl ⟨Nat.le_of_ble_eq_true rfl, Nat.le_of_ble_eq_true rfl⟩ (Nat.le_of_ble_eq_true rfl) (c_X8_pieceFrom hx0 hc2) ?_
  refine ev_lstore dX8_piecesOf_19 rfl (by decide) ?_
  show Ev _ _ _ _ 21 _ _ _ [(2, x0), (0, x1), (2, (166 : Int)), (0, x3), (0, x4), (1, v1), (9, 0)] _
  refine ev_lload dX8_piecesOf_21 rfl ?_
  refine ev_lconst (x := (0 : Int)) dX8_piecesOf_23 (by decide) (by decide) ?_
  refine ev_lc_eq (tgt := 42) dX8_piecesOf_24 dX8_piecesOf_25 rfl h (fun cb h => ?_) (fun cb h => ?_)
  · exact ev_sub (L2 := [(2, x0), (0, x1), (2, (166 : Int)), (0, x3), (0, x4), (9, 0), (9, 0)]) (e_X8_piecesOf_42 σ x0 x1 x3 x4 hx0 h K) ⟨.inr rfl, .inr rfl, .inr rfl, .inr rfl, .inr rfl, .inl rfl, .inl rfl, trivial⟩
  refine ev_iload_n dX8_piecesOf_28 rfl ?_
  refine ev_aload_n dX8_piecesOf_29 rfl (by decide) ?_
  refine ev_alen (N := 9) dX8_piecesOf_30 sp166 (by decide) (by decide) (by decide) (by decide) ?_
  refine ev_icmp_ge (tgt := 42) dX8_piecesOf_31 rfl h (fun cb h => ?_) (fun cb h => ?_)
  · exact ev_sub (L2 := [(2, x0), (0, x1), (2, (166 : Int)), (0, x3), (0, x4), (9, 0), (9, 0)]) (e_X8_piecesOf_42 σ x0 x1 x3 x4 hx0 h K) ⟨.inr rfl, .inr rfl, .inr rfl, .inr rfl, .inr rfl, .inl rfl, .inl rfl, trivial⟩
  refine ev_aload_n dX8_piecesOf_34 rfl (by decide) ?_
  refine ev_iload_n dX8_piecesOf_35 rfl ?_
  refine ev_lload dX8_piecesOf_36 rfl ?_
  refine ev_lastG dX8_piecesOf_38 sp166 (by decide) (by decide) h (fun σ3 h => ?_)
  refine ev_iincG dX8_piecesOf_39 rfl h rfl (fun v4 h => ?_)
  show Ev _ _ _ _ 42 _ _ _ [(2, x0), (0, x1), (2, (166 : Int)), (0, v4), (0, x4), (1, v1), (9, 0)] _
  exact ev_sub (L2 := [(2, x0), (0, x1), (2, (166 : Int)), (0, v4), (0, x4), (9, 0), (9, 0)]) (e_X8_piecesOf_42 σ3 x0 x1 v4 x4 hx0 h K) ⟨.inr rfl, .inr rfl, .inr rfl, .inr rfl, .inr rfl, .inl rfl, .inl rfl, trivial⟩
set_option maxHeartbeats 4000000 in
set_option maxRecDepth 20000 in
theorem e_X8_piecesOf_5 (σ : Mem) (x0 x1 x3 x4 : Int) (hx0 : isW x0) {q : (Int × Mem)} (h : f_X8_piecesOf_5 σ x0 x1 x3 x4 = some q) : Ev M_X8_piecesOf 210 210 (some (0, q.1), rho, q.2) 5 210 rho σ [(2, x0), (0, x1), (2, (166 : Int)), (0, x3), (0, x4), (9, 0), (9, 0)] [] := by
  unfold f_X8_piecesOf_5 at h
  obtain ⟨e, hl, h⟩ := bind_of h
  refine loop_ev (K := K_X8_piecesOf_5 x0 x1 (some (0, q.1), rho, q.2)) (b_X8_piecesOf_5 x0 x1 hx0) FU (x3, x4, σ) e hl ?_
  show Ev M_X8_piecesOf 210 210 _ 48 210 rho e.2 [(9, 0), (9, 0), (9, 0), (0, e.1), (9, 0), (9, 0), (9, 0)] []
  replace h : some (e.1, e.2) = some q := h
  refine ev_iload_n dX8_piecesOf_48 rfl ?_
  obtain rfl := Option.some.inj h
  dsimp only
  exact ev_iret dX8_piecesOf_49 rfl rfl
set_option maxHeartbeats 4000000 in
set_option maxRecDepth 20000 in
theorem c_X8_piecesOf {σ : Mem} {x0 x1 : Int} (hx0 : isW x0) {q : (Int × Mem)} (h : f_X8_piecesOf σ x0 x1 = some q) : Ms yX8_piecesOf M_X8_piecesOf 210 210 [(2, x0), (0, x1), (2, (166 : Int))] rho σ (some (0, q.1), rho, q.2) := by
  refine Ms.of 4 (by decide +kernel) rfl (fun z => absurd z (by decide)) (fun _ _ _ => trivial) rfl rfl ?_
  unfold f_X8_piecesOf at h
  show Ev M_X8_piecesOf 210 210 _ 0 210 rho σ [(2, x0), (0, x1), (2, (166 : Int)), (9, 0), (9, 0), (9, 0), (9, 0)] []
  refine ev_iconst dX8_piecesOf_0 (by decide) ?_
  refine ev_istore_n dX8_piecesOf_1 rfl (by decide) ?_
  show Ev _ _ _ _ 2 _ _ _ [(2, x0), (0, x1), (2, (166 : Int)), (0, (0 : Int)), (9, 0), (9, 0), (9, 0)] _
  refine ev_iconst dX8_piecesOf_2 (by decide) ?_
  refine ev_istore dX8_piecesOf_3 rfl (by decide) ?_
  show Ev _ _ _ _ 5 _ _ _ [(2, x0), (0, x1), (2, (166 : Int)), (0, (0 : Int)), (0, (0 : Int)), (9, 0), (9, 0)] _
  exact ev_sub (L2 := [(2, x0), (0, x1), (2, (166 : Int)), (0, (0 : Int)), (0, (0 : Int)), (9, 0), (9, 0)]) (e_X8_piecesOf_5 σ x0 x1 (0 : Int) (0 : Int) hx0 h) ⟨.inr rfl, .inr rfl, .inr rfl, .inr rfl, .inr rfl, .inl rfl, .inl rfl, trivial⟩
set_option maxHeartbeats 4000000 in
set_option maxRecDepth 20000 in
theorem e_X5_costWith_26 (σ : Mem) (s1 s0 : Int)  {q : Int} (h : f_X5_costWith_26 σ s1 s0 = some q) : Ev M_X5_costWith 210 210 (some (0, q), rho, σ) 26 210 rho σ [(9, 0), (9, 0), (9, 0), (9, 0)] [(0, s1), (0, s0)] := by
  unfold f_X5_costWith_26 at h
  refine ev_iadd dX5_costWith_26 ?_
  obtain rfl := Option.some.inj h
  exact ev_iret dX5_costWith_27 rfl rfl
set_option maxHeartbeats 4000000 in
set_option maxRecDepth 20000 in
theorem e_X5_costWith_21 (σ : Mem) (s0 : Int)  {q : Int} (h : f_X5_costWith_21 σ s0 = some q) : Ev M_X5_costWith 210 210 (some (0, q), rho, σ) 21 210 rho σ [(9, 0), (9, 0), (9, 0), (9, 0)] [(0, s0)] := by
  unfold f_X5_costWith_21 at h
  refine ev_iconst dX5_costWith_21 (by decide) ?_
  refine ev_goto (tgt := 26) dX5_costWith_22 rfl ?_
  exact ev_sub (L2 := [(9, 0), (9, 0), (9, 0), (9, 0)]) (e_X5_costWith_26 σ (0 : Int) s0 h) ⟨.inl rfl, .inl rfl, .inl rfl, .inl rfl, trivial⟩
set_option maxHeartbeats 4000000 in
set_option maxRecDepth 20000 in
theorem c_X5_costWith {σ : Mem} {x1 x2 x3 : Int}  {q : Int} (h : f_X5_costWith σ x1 x2 x3 = some q) : Ms yX5_costWith M_X5_costWith 210 210 [(2, (163 : Int)), (0, x1), (0, x2), (0, x3)] rho σ (some (0, q), rho, σ) := by
  refine Ms.of 0 (by decide +kernel) rfl (fun z => absurd z (by decide)) (fun _ _ _ => trivial) rfl rfl ?_
  unfold f_X5_costWith at h
  show Ev M_X5_costWith 210 210 _ 0 210 rho σ [(2, (163 : Int)), (0, x1), (0, x2), (0, x3)] []
  refine ev_aload_n dX5_costWith_0 rfl (by decide) ?_
  refine ev_getf (j := 6) (t := 2) (x := (170 : Int)) dX5_costWith_1 cf_X5 wf_X5_31 sp163 (by decide) (by decide) rfl (by decide) (rp163_6 _) ?_
  refine ev_iload_n dX5_costWith_4 rfl ?_
  refine ev_bipush dX5_costWith_5 (by decide) (by decide) ?_
  refine ev_imul dX5_costWith_7 ?_
  refine ev_iload_n dX5_costWith_8 rfl ?_
  refine ev_iadd dX5_costWith_9 ?_
  refine ev_iald dX5_costWith_10 sp170 (by decide) (by decide) h (fun h => ?_)
  refine ev_iload_n dX5_costWith_11 rfl ?_
  refine ev_iconst dX5_costWith_12 (by decide) ?_
  refine ev_icmp_eq (tgt := 21) dX5_costWith_13 rfl h (fun cb h => ?_) (fun cb h => ?_)
  · exact ev_sub (L2 := [(9, 0), (9, 0), (9, 0), (9, 0)]) (e_X5_costWith_21 σ (σ (170 : Int) (jadd (jmul x1 (6 : Int)) x2)) h) ⟨.inl rfl, .inl rfl, .inl rfl, .inl rfl, trivial⟩
  refine ev_iload_n dX5_costWith_16 rfl ?_
  refine ev_iload_n dX5_costWith_17 rfl ?_
  refine ev_icmp_ne (tgt := 25) dX5_costWith_18 rfl h (fun cb h => ?_) (fun cb h => ?_)
  · refine ev_iconst dX5_costWith_25 (by decide) ?_
    exact ev_sub (L2 := [(9, 0), (9, 0), (9, 0), (9, 0)]) (e_X5_costWith_26 σ (1 : Int) (σ (170 : Int) (jadd (jmul x1 (6 : Int)) x2)) h) ⟨.inl rfl, .inl rfl, .inl rfl, .inl rfl, trivial⟩
  exact ev_sub (L2 := [(9, 0), (9, 0), (9, 0), (9, 0)]) (e_X5_costWith_21 σ (σ (170 : Int) (jadd (jmul x1 (6 : Int)) x2)) h) ⟨.inl rfl, .inl rfl, .inl rfl, .inl rfl, trivial⟩
def K_X5_firstRoom_6 (σ : Mem) (x1 x2 x3 : Int) (r : Option V × Mem × Mem) : (Int × Int) ⊕ ((Int)) → Prop := Sum.elim (fun a => Ev M_X5_firstRoom 210 210 r 6 210 rho σ [(2, (163 : Int)), (0, x1), (0, x2), (0, x3), (0, a.1), (0, a.2), (9, 0)] []) (fun e => Ev M_X5_firstRoom 210 210 r 59 210 rho σ [(9, 0), (9, 0), (9, 0), (9, 0), (0, e), (9, 0), (9, 0)] [])
set_option maxHeartbeats 4000000 in
set_option maxRecDepth 20000 in
theorem e_X5_firstRoom_53 (σ : Mem) (x1 x2 x3 x4 x5 : Int)  {q : ((Int × Int) ⊕ ((Int)))} (h : f_X5_firstRoom_53 σ x1 x2 x3 x4 x5 = some q) {r : Option V × Mem × Mem} (K : K_X5_firstRoom_6 σ x1 x2 x3 r q) : Ev M_X5_firstRoom 210 210 r 53 210 rho σ [(2, (163 : Int)), (0, x1), (0, x2), (0, x3), (0, x4), (0, x5), (9, 0)] [] := by
  unfold f_X5_firstRoom_53 at h
  refine ev_iincG dX5_firstRoom_53 rfl h rfl (fun v5 h => ?_)
  show Ev _ _ _ _ 56 _ _ _ [(2, (163 : Int)), (0, x1), (0, x2), (0, x3), (0, x4), (0, v5), (9, 0)] _
  refine ev_goto (tgt := 6) dX5_firstRoom_56 rfl ?_
  obtain rfl := Option.some.inj h
  exact ev_sub (L2 := [(2, (163 : Int)), (0, x1), (0, x2), (0, x3), (0, x4), (0, v5), (9, 0)]) K ⟨.inr rfl, .inr rfl, .inr rfl, .inr rfl, .inr rfl, .inr rfl, .inl rfl, trivial⟩
set_option maxHeartbeats 4000000 in
set_option maxRecDepth 20000 in
theorem e_X5_firstRoom_49 (σ : Mem) (x1 x2 x3 x5 : Int)  {q : ((Int × Int) ⊕ ((Int)))} (h : f_X5_firstRoom_49 σ x1 x2 x3 x5 = some q) {r : Option V × Mem × Mem} (K : K_X5_firstRoom_6 σ x1 x2 x3 r q) : Ev M_X5_firstRoom 210 210 r 49 210 rho σ [(2, (163 : Int)), (0, x1), (0, x2), (0, x3), (9, 0), (0, x5), (9, 0)] [] := by
  unfold f_X5_firstRoom_49 at h
  refine ev_iload dX5_firstRoom_49 rfl ?_
  refine ev_istore dX5_firstRoom_51 rfl (by decide) ?_
  show Ev _ _ _ _ 53 _ _ _ [(2, (163 : Int)), (0, x1), (0, x2), (0, x3), (0, x5), (0, x5), (9, 0)] _
  exact ev_sub (L2 := [(2, (163 : Int)), (0, x1), (0, x2), (0, x3), (0, x5), (0, x5), (9, 0)]) (e_X5_firstRoom_53 σ x1 x2 x3 x5 x5 h K) ⟨.inr rfl, .inr rfl, .inr rfl, .inr rfl, .inr rfl, .inr rfl, .inl rfl, trivial⟩
set_option maxHeartbeats 4000000 in
set_option maxRecDepth 20000 in
theorem b_X5_firstRoom_6 (σ : Mem) (x1 x2 x3 : Int)  {r : Option V × Mem × Mem} : ∀ a x, f_X5_firstRoom_6B σ x1 x2 x3 a = some x → K_X5_firstRoom_6 σ x1 x2 x3 r x → K_X5_firstRoom_6 σ x1 x2 x3 r (.inl a) := by
  intro a x h K
  obtain ⟨x4, x5⟩ := a
  have h : f_X5_firstRoom_6C σ x1 x2 x3 x4 x5 = some x := h
  unfold f_X5_firstRoom_6C at h
  show Ev M_X5_firstRoom 210 210 r 6 210 rho σ [(2, (163 : Int)), (0, x1), (0, x2), (0, x3), (0, x4), (0, x5), (9, 0)] []
  refine ev_iload dX5_firstRoom_6 rfl ?_
  refine ev_iload_n dX5_firstRoom_8 rfl ?_
  refine ev_icmp_ge (tgt := 59) dX5_firstRoom_9 rfl h (fun cb h => ?_) (fun cb h => ?_)
  · obtain rfl := Option.some.inj h
    exact ev_sub (L2 := [(9, 0), (9, 0), (9, 0), (9, 0), (0, x4), (9, 0), (9, 0)]) K ⟨.inl rfl, .inl rfl, .inl rfl, .inl rfl, .inr rfl, .inl rfl, .inl rfl, trivial⟩
  refine ev_aload_n dX5_firstRoom_12 rfl (by decide) ?_
  refine ev_iload_n dX5_firstRoom_13 rfl ?_
  refine ev_iload dX5_firstRoom_14 rfl ?_
  refine ev_iload_n dX5_firstRoom_16 rfl ?_
  obtain ⟨v1, hc2, h⟩ := bind_of h
  refine ev_invV_v (k := (163 : Int)) (av := [(0, x2), (0, x5), (0, x3)]) (st := []) (v := (0, v1)) (τ := σ) dX5_firstRoom_17 ml_X5_84 mv_X5_costWith (T := TX5) (ci := 4) rfl sp163 (by decide) (by decide) rfl ⟨Nat.le_of_ble_eq_true rfl, Nat.le_of_ble_eq_true rfl⟩ (Nat.le_of_ble_eq_true rfl) (c_X5_costWith hc2) ?_
  refine ev_istore dX5_firstRoom_20 rfl (by decide) ?_
  show Ev _ _ _ _ 22 _ _ _ [(2, (163 : Int)), (0, x1), (0, x2), (0, x3), (0, x4), (0, x5), (0, v1)] _
  refine ev_iload dX5_firstRoom_22 rfl ?_
  refine ev_sipush dX5_firstRoom_24 (by decide) (by decide) ?_
  refine ev_icmp_ge (tgt := 53) dX5_firstRoom_27 rfl h (fun cb h => ?_) (fun cb h => ?_)
  · exact ev_sub (L2 := [(2, (163 : Int)), (0, x1), (0, x2), (0, x3), (0, x4), (0, x5), (9, 0)]) (e_X5_firstRoom_53 σ x1 x2 x3 x4 x5 h K) ⟨.inr rfl, .inr rfl, .inr rfl, .inr rfl, .inr rfl, .inr rfl, .inl rfl, trivial⟩
  refine ev_iload dX5_firstRoom_30 rfl ?_
  refine ev_iconst dX5_firstRoom_32 (by decide) ?_
  refine ev_icmp_eq (tgt := 49) dX5_firstRoom_33 rfl h (fun cb h => ?_) (fun cb h => ?_)
  · exact ev_sub (L2 := [(2, (163 : Int)), (0, x1), (0, x2), (0, x3), (9, 0), (0, x5), (9, 0)]) (e_X5_firstRoom_49 σ x1 x2 x3 x5 h K) ⟨.inr rfl, .inr rfl, .inr rfl, .inr rfl, .inl rfl, .inr rfl, .inl rfl, trivial⟩
  refine ev_iload dX5_firstRoom_36 rfl ?_
  refine ev_aload_n dX5_firstRoom_38 rfl (by decide) ?_
  refine ev_iload_n dX5_firstRoom_39 rfl ?_
  refine ev_iload dX5_firstRoom_40 rfl ?_
  refine ev_iload_n dX5_firstRoom_42 rfl ?_
  obtain ⟨v3, hc4, h⟩ := bind_of h
  refine ev_invV_v (k := (163 : Int)) (av := [(0, x2), (0, x4), (0, x3)]) (st := [(0, v1)]) (v := (0, v3)) (τ := σ) dX5_firstRoom_43 ml_X5_84 mv_X5_costWith (T := TX5) (ci := 4) rfl sp163 (by decide) (by decide) rfl ⟨Nat.le_of_ble_eq_true rfl, Nat.le_of_ble_eq_true rfl⟩ (Nat.le_of_ble_eq_true rfl) (c_X5_costWith hc4) ?_
  refine ev_icmp_ge (tgt := 53) dX5_firstRoom_46 rfl h (fun cb h => ?_) (fun cb h => ?_)
  · exact ev_sub (L2 := [(2, (163 : Int)), (0, x1), (0, x2), (0, x3), (0, x4), (0, x5), (9, 0)]) (e_X5_firstRoom_53 σ x1 x2 x3 x4 x5 h K) ⟨.inr rfl, .inr rfl, .inr rfl, .inr rfl, .inr rfl, .inr rfl, .inl rfl, trivial⟩
  exact ev_sub (L2 := [(2, (163 : Int)), (0, x1), (0, x2), (0, x3), (9, 0), (0, x5), (9, 0)]) (e_X5_firstRoom_49 σ x1 x2 x3 x5 h K) ⟨.inr rfl, .inr rfl, .inr rfl, .inr rfl, .inl rfl, .inr rfl, .inl rfl, trivial⟩
set_option maxHeartbeats 4000000 in
set_option maxRecDepth 20000 in
theorem e_X5_firstRoom_6 (σ : Mem) (x1 x2 x3 x4 x5 : Int)  {q : Int} (h : f_X5_firstRoom_6 σ x1 x2 x3 x4 x5 = some q) : Ev M_X5_firstRoom 210 210 (some (0, q), rho, σ) 6 210 rho σ [(2, (163 : Int)), (0, x1), (0, x2), (0, x3), (0, x4), (0, x5), (9, 0)] [] := by
  unfold f_X5_firstRoom_6 at h
  obtain ⟨e, hl, h⟩ := bind_of h
  refine loop_ev (K := K_X5_firstRoom_6 σ x1 x2 x3 (some (0, q), rho, σ)) (b_X5_firstRoom_6 σ x1 x2 x3) FU (x4, x5) e hl ?_
  show Ev M_X5_firstRoom 210 210 _ 59 210 rho σ [(9, 0), (9, 0), (9, 0), (9, 0), (0, e), (9, 0), (9, 0)] []
  replace h : some e = some q := h
  refine ev_iload dX5_firstRoom_59 rfl ?_
  obtain rfl := Option.some.inj h
  exact ev_iret dX5_firstRoom_61 rfl rfl
set_option maxHeartbeats 4000000 in
set_option maxRecDepth 20000 in
theorem c_X5_firstRoom {σ : Mem} {x1 x2 x3 : Int}  {q : Int} (h : f_X5_firstRoom σ x1 x2 x3 = some q) : Ms yX5_firstRoom M_X5_firstRoom 210 210 [(2, (163 : Int)), (0, x1), (0, x2), (0, x3)] rho σ (some (0, q), rho, σ) := by
  refine Ms.of 3 (by decide +kernel) rfl (fun z => absurd z (by decide)) (fun _ _ _ => trivial) rfl rfl ?_
  unfold f_X5_firstRoom at h
  show Ev M_X5_firstRoom 210 210 _ 0 210 rho σ [(2, (163 : Int)), (0, x1), (0, x2), (0, x3), (9, 0), (9, 0), (9, 0)] []
  refine ev_iconst dX5_firstRoom_0 (by decide) ?_
  refine ev_istore dX5_firstRoom_1 rfl (by decide) ?_
  show Ev _ _ _ _ 3 _ _ _ [(2, (163 : Int)), (0, x1), (0, x2), (0, x3), (0, (-1 : Int)), (9, 0), (9, 0)] _
  refine ev_iconst dX5_firstRoom_3 (by decide) ?_
  refine ev_istore dX5_firstRoom_4 rfl (by decide) ?_
  show Ev _ _ _ _ 6 _ _ _ [(2, (163 : Int)), (0, x1), (0, x2), (0, x3), (0, (-1 : Int)), (0, (0 : Int)), (9, 0)] _
  exact ev_sub (L2 := [(2, (163 : Int)), (0, x1), (0, x2), (0, x3), (0, (-1 : Int)), (0, (0 : Int)), (9, 0)]) (e_X5_firstRoom_6 σ x1 x2 x3 (-1 : Int) (0 : Int) h) ⟨.inr rfl, .inr rfl, .inr rfl, .inr rfl, .inr rfl, .inr rfl, .inl rfl, trivial⟩
set_option maxHeartbeats 4000000 in
set_option maxRecDepth 20000 in
theorem c_X5_costFrom {σ : Mem} {x1 x2 x3 x4 : Int}  {q : Int} (h : f_X5_costFrom σ x1 x2 x3 x4 = some q) : Ms yX5_costFrom M_X5_costFrom 210 210 [(2, (163 : Int)), (0, x1), (0, x2), (0, x3), (0, x4)] rho σ (some (0, q), rho, σ) := by
  refine Ms.of 1 (by decide +kernel) rfl (fun z => absurd z (by decide)) (fun _ _ _ => trivial) rfl rfl ?_
  unfold f_X5_costFrom at h
  show Ev M_X5_costFrom 210 210 _ 0 210 rho σ [(2, (163 : Int)), (0, x1), (0, x2), (0, x3), (0, x4), (9, 0)] []
  refine ev_aload_n dX5_costFrom_0 rfl (by decide) ?_
  refine ev_getf (j := 1) (t := 2) (x := (165 : Int)) dX5_costFrom_1 cf_X5 wf_X5_15 sp163 (by decide) (by decide) rfl (by decide) (rp163_1 _) ?_
  refine ev_iload dX5_costFrom_4 rfl ?_
  refine ev_lald dX5_costFrom_6 sp165 (by decide) (by decide) h (fun h => ?_)
  refine ev_aload_n dX5_costFrom_7 rfl (by decide) ?_
  refine ev_getf (j := 2) (t := 2) (x := (166 : Int)) dX5_costFrom_8 cf_X5 wf_X5_19 sp163 (by decide) (by decide) rfl (by decide) (rp163_2 _) ?_
  refine ev_iload_n dX5_costFrom_11 rfl ?_
  refine ev_lald dX5_costFrom_12 sp166 (by decide) (by decide) h (fun h => ?_)
  refine ev_land dX5_costFrom_13 ?_
  refine ev_lconst (x := (0 : Int)) dX5_costFrom_14 (by decide) (by decide) ?_
  refine ev_lc_eq (tgt := 23) dX5_costFrom_15 dX5_costFrom_16 rfl h (fun cb h => ?_) (fun cb h => ?_)
  · refine ev_iload_n dX5_costFrom_23 rfl ?_
    refine ev_iconst dX5_costFrom_24 (by decide) ?_
    refine ev_iadd dX5_costFrom_25 ?_
    refine ev_iload_n dX5_costFrom_26 rfl ?_
    refine ev_icmp_lt (tgt := 32) dX5_costFrom_27 rfl h (fun cb h => ?_) (fun cb h => ?_)
    · refine ev_aload_n dX5_costFrom_32 rfl (by decide) ?_
      refine ev_iload_n dX5_costFrom_33 rfl ?_
      refine ev_iload_n dX5_costFrom_34 rfl ?_
      refine ev_iconst dX5_costFrom_35 (by decide) ?_
      refine ev_iadd dX5_costFrom_36 ?_
      refine ev_iload dX5_costFrom_37 rfl ?_
      obtain ⟨v1, hc2, h⟩ := bind_of h
      refine ev_invV_v (k := (163 : Int)) (av := [(0, x1), (0, (jadd x3 (1 : Int))), (0, x4)]) (st := []) (v := (0, v1)) (τ := σ) dX5_costFrom_39 ml_X5_72 mv_X5_firstRoom (T := TX5) (ci := 4) rfl sp163 (by decide) (by decide) rfl ⟨Nat.le_of_ble_eq_true rfl, Nat.le_of_ble_eq_true rfl⟩ (Nat.le_of_ble_eq_true rfl) (c_X5_firstRoom hc2) ?_
      refine ev_istore dX5_costFrom_42 rfl (by decide) ?_
      show Ev _ _ _ _ 44 _ _ _ [(2, (163 : Int)), (0, x1), (0, x2), (0, x3), (0, x4), (0, v1)] _
      refine ev_iload dX5_costFrom_44 rfl ?_
      refine ev_iconst dX5_costFrom_46 (by decide) ?_
      refine ev_icmp_ne (tgt := 56) dX5_costFrom_47 rfl h (fun cb h => ?_) (fun cb h => ?_)
      · refine ev_aload_n dX5_costFrom_56 rfl (by decide) ?_
        refine ev_iload_n dX5_costFrom_57 rfl ?_
        refine ev_iconst dX5_costFrom_58 (by decide) ?_
        refine ev_iadd dX5_costFrom_59 ?_
        refine ev_iload dX5_costFrom_60 rfl ?_
        refine ev_iload dX5_costFrom_62 rfl ?_
        obtain ⟨v3, hc4, h⟩ := bind_of h
        refine ev_invV_v (k := (163 : Int)) (av := [(0, (jadd x3 (1 : Int))), (0, v1), (0, x4)]) (st := []) (v := (0, v3)) (τ := σ) dX5_costFrom_64 ml_X5_84 mv_X5_costWith (T := TX5) (ci := 4) rfl sp163 (by decide) (by decide) rfl ⟨Nat.le_of_ble_eq_true rfl, Nat.le_of_ble_eq_true rfl⟩ (Nat.le_of_ble_eq_true rfl) (c_X5_costWith hc4) ?_
        obtain rfl := Option.some.inj h
        exact ev_iret dX5_costFrom_67 rfl rfl
      refine ev_sipush dX5_costFrom_50 (by decide) (by decide) ?_
      refine ev_goto (tgt := 67) dX5_costFrom_53 rfl ?_
      obtain rfl := Option.some.inj h
      exact ev_iret dX5_costFrom_67 rfl rfl
    refine ev_iconst dX5_costFrom_30 (by decide) ?_
    obtain rfl := Option.some.inj h
    exact ev_iret dX5_costFrom_31 rfl rfl
  refine ev_sipush dX5_costFrom_19 (by decide) (by decide) ?_
  obtain rfl := Option.some.inj h
  exact ev_iret dX5_costFrom_22 rfl rfl
def K_X5_countMoves_11 (x1 x2 x3 : Int) (r : Option V × Mem × Mem) : (Int × Mem) ⊕ ((Mem)) → Prop := Sum.elim (fun a => Ev M_X5_countMoves 210 210 r 11 210 rho a.2 [(2, (163 : Int)), (0, x1), (0, x2), (0, x3), (0, a.1)] []) (fun e => Ev M_X5_countMoves 210 210 r 44 210 rho e [(2, (163 : Int)), (0, x1), (0, x2), (0, x3), (9, 0)] [])
def K_X5_countMoves_4 (x1 x2 : Int) (r : Option V × Mem × Mem) : (Int × Mem) ⊕ ((Mem)) → Prop := Sum.elim (fun a => Ev M_X5_countMoves 210 210 r 4 210 rho a.2 [(2, (163 : Int)), (0, x1), (0, x2), (0, a.1), (9, 0)] []) (fun e => Ev M_X5_countMoves 210 210 r 50 210 rho e [(9, 0), (9, 0), (9, 0), (9, 0), (9, 0)] [])
set_option maxHeartbeats 4000000 in
set_option maxRecDepth 20000 in
theorem e_X5_countMoves_44 (σ : Mem) (x1 x2 x3 : Int)  {q : ((Int × Mem) ⊕ ((Mem)))} (h : f_X5_countMoves_44 σ x1 x2 x3 = some q) {r : Option V × Mem × Mem} (K : K_X5_countMoves_4 x1 x2 r q) : Ev M_X5_countMoves 210 210 r 44 210 rho σ [(2, (163 : Int)), (0, x1), (0, x2), (0, x3), (9, 0)] [] := by
  unfold f_X5_countMoves_44 at h
  refine ev_iincG dX5_countMoves_44 rfl h rfl (fun v6 h => ?_)
  show Ev _ _ _ _ 47 _ _ _ [(2, (163 : Int)), (0, x1), (0, x2), (0, v6), (9, 0)] _
  refine ev_goto (tgt := 4) dX5_countMoves_47 rfl ?_
  obtain rfl := Option.some.inj h
  exact ev_sub (L2 := [(2, (163 : Int)), (0, x1), (0, x2), (0, v6), (9, 0)]) K ⟨.inr rfl, .inr rfl, .inr rfl, .inr rfl, .inl rfl, trivial⟩
set_option maxHeartbeats 4000000 in
set_option maxRecDepth 20000 in
theorem b_X5_countMoves_11 (x1 x2 x3 : Int)  {r : Option V × Mem × Mem} : ∀ a x, f_X5_countMoves_11B x1 x2 x3 a = some x → K_X5_countMoves_11 x1 x2 x3 r x → K_X5_countMoves_11 x1 x2 x3 r (.inl a) := by
  intro a x h K
  obtain ⟨x4, σ⟩ := a
  have h : f_X5_countMoves_11C x1 x2 x3 x4 σ = some x := h
  unfold f_X5_countMoves_11C at h
  show Ev M_X5_countMoves 210 210 r 11 210 rho σ [(2, (163 : Int)), (0, x1), (0, x2), (0, x3), (0, x4)] []
  refine ev_iload dX5_countMoves_11 rfl ?_
  refine ev_iload_n dX5_countMoves_13 rfl ?_
  refine ev_icmp_ge (tgt := 44) dX5_countMoves_14 rfl h (fun cb h => ?_) (fun cb h => ?_)
  · obtain rfl := Option.some.inj h
    exact ev_sub (L2 := [(2, (163 : Int)), (0, x1), (0, x2), (0, x3), (9, 0)]) K ⟨.inr rfl, .inr rfl, .inr rfl, .inr rfl, .inl rfl, trivial⟩
  refine ev_aload_n dX5_countMoves_17 rfl (by decide) ?_
  refine ev_getf (j := 6) (t := 2) (x := (170 : Int)) dX5_countMoves_18 cf_X5 wf_X5_31 sp163 (by decide) (by decide) rfl (by decide) (rp163_6 _) ?_
  refine ev_iload_n dX5_countMoves_21 rfl ?_
  refine ev_bipush dX5_countMoves_22 (by decide) (by decide) ?_
  refine ev_imul dX5_countMoves_24 ?_
  refine ev_iload dX5_countMoves_25 rfl ?_
  refine ev_iadd dX5_countMoves_27 ?_
  refine ev_aload_n dX5_countMoves_28 rfl (by decide) ?_
  refine ev_iload_n dX5_countMoves_29 rfl ?_
  refine ev_iload_n dX5_countMoves_30 rfl ?_
  refine ev_iload_n dX5_countMoves_31 rfl ?_
  show Ev _ _ _ _ 32 _ _ _ _ _
  refine ev_iload dX5_countMoves_32 rfl ?_
  obtain ⟨v2, hc3, h⟩ := bind_of h
  refine ev_invV_v (k := (163 : Int)) (av := [(0, x1), (0, x2), (0, x3), (0, x4)]) (st := [(0, (jadd (jmul x3 (6 : Int)) x4)), (2, (170 : Int))]) (v := (0, v2)) (τ := σ) dX5_countMoves_34 ml_X5_80 mv_X5_costFrom (T := TX5) (ci := 4) rfl sp163 (by decide) (by decide) rfl ⟨Nat.le_of_ble_eq_true rfl, Nat.le_of_ble_eq_true rfl⟩ (Nat.le_of_ble_eq_true rfl) (c_X5_costFrom hc3) ?_
  refine ev_iastG dX5_countMoves_37 sp170 (by decide) (by decide) h (fun σ4 h => ?_)
  refine ev_iincG dX5_countMoves_38 rfl h rfl (fun v5 h => ?_)
  show Ev _ _ _ _ 41 _ _ _ [(2, (163 : Int)), (0, x1), (0, x2), (0, x3), (0, v5)] _
  refine ev_goto (tgt := 11) dX5_countMoves_41 rfl ?_
  obtain rfl := Option.some.inj h
  exact ev_sub (L2 := [(2, (163 : Int)), (0, x1), (0, x2), (0, x3), (0, v5)]) K ⟨.inr rfl, .inr rfl, .inr rfl, .inr rfl, .inr rfl, trivial⟩
set_option maxHeartbeats 4000000 in
set_option maxRecDepth 20000 in
theorem e_X5_countMoves_11 (σ : Mem) (x1 x2 x3 x4 : Int)  {q : ((Int × Mem) ⊕ ((Mem)))} (h : f_X5_countMoves_11 σ x1 x2 x3 x4 = some q) {r : Option V × Mem × Mem} (K : K_X5_countMoves_4 x1 x2 r q) : Ev M_X5_countMoves 210 210 r 11 210 rho σ [(2, (163 : Int)), (0, x1), (0, x2), (0, x3), (0, x4)] [] := by
  unfold f_X5_countMoves_11 at h
  obtain ⟨e, hl, h⟩ := bind_of h
  refine loop_ev (K := K_X5_countMoves_11 x1 x2 x3 r) (b_X5_countMoves_11 x1 x2 x3) FU (x4, σ) e hl ?_
  show Ev M_X5_countMoves 210 210 r 44 210 rho e [(2, (163 : Int)), (0, x1), (0, x2), (0, x3), (9, 0)] []
  replace h : f_X5_countMoves_44 e x1 x2 x3 = some q := h
  exact ev_sub (L2 := [(2, (163 : Int)), (0, x1), (0, x2), (0, x3), (9, 0)]) (e_X5_countMoves_44 e x1 x2 x3 h K) ⟨.inr rfl, .inr rfl, .inr rfl, .inr rfl, .inl rfl, trivial⟩
set_option maxHeartbeats 4000000 in
set_option maxRecDepth 20000 in
theorem b_X5_countMoves_4 (x1 x2 : Int)  {r : Option V × Mem × Mem} : ∀ a x, f_X5_countMoves_4B x1 x2 a = some x → K_X5_countMoves_4 x1 x2 r x → K_X5_countMoves_4 x1 x2 r (.inl a) := by
  intro a x h K
  obtain ⟨x3, σ⟩ := a
  have h : f_X5_countMoves_4C x1 x2 x3 σ = some x := h
  unfold f_X5_countMoves_4C at h
  show Ev M_X5_countMoves 210 210 r 4 210 rho σ [(2, (163 : Int)), (0, x1), (0, x2), (0, x3), (9, 0)] []
  refine ev_iload_n dX5_countMoves_4 rfl ?_
  refine ev_if_lt (tgt := 50) dX5_countMoves_5 rfl h (fun cb h => ?_) (fun cb h => ?_)
  · obtain rfl := Option.some.inj h
    exact ev_sub (L2 := [(9, 0), (9, 0), (9, 0), (9, 0), (9, 0)]) K ⟨.inl rfl, .inl rfl, .inl rfl, .inl rfl, .inl rfl, trivial⟩
  refine ev_iconst dX5_countMoves_8 (by decide) ?_
  refine ev_istore dX5_countMoves_9 rfl (by decide) ?_
  show Ev _ _ _ _ 11 _ _ _ [(2, (163 : Int)), (0, x1), (0, x2), (0, x3), (0, (0 : Int))] _
  exact ev_sub (L2 := [(2, (163 : Int)), (0, x1), (0, x2), (0, x3), (0, (0 : Int))]) (e_X5_countMoves_11 σ x1 x2 x3 (0 : Int) h K) ⟨.inr rfl, .inr rfl, .inr rfl, .inr rfl, .inr rfl, trivial⟩
set_option maxHeartbeats 4000000 in
set_option maxRecDepth 20000 in
theorem e_X5_countMoves_4 (σ : Mem) (x1 x2 x3 : Int)  {q : Mem} (h : f_X5_countMoves_4 σ x1 x2 x3 = some q) : Ev M_X5_countMoves 210 210 (none, rho, q) 4 210 rho σ [(2, (163 : Int)), (0, x1), (0, x2), (0, x3), (9, 0)] [] := by
  unfold f_X5_countMoves_4 at h
  obtain ⟨e, hl, h⟩ := bind_of h
  refine loop_ev (K := K_X5_countMoves_4 x1 x2 (none, rho, q)) (b_X5_countMoves_4 x1 x2) FU (x3, σ) e hl ?_
  show Ev M_X5_countMoves 210 210 _ 50 210 rho e [(9, 0), (9, 0), (9, 0), (9, 0), (9, 0)] []
  replace h : some e = some q := h
  obtain rfl := Option.some.inj h
  exact ev_vret dX5_countMoves_50 rfl rfl
set_option maxHeartbeats 4000000 in
set_option maxRecDepth 20000 in
theorem c_X5_countMoves {σ : Mem} {x1 x2 : Int}  {q : Mem} (h : f_X5_countMoves σ x1 x2 = some q) : Ms yX5_countMoves M_X5_countMoves 210 210 [(2, (163 : Int)), (0, x1), (0, x2)] rho σ (none, rho, q) := by
  refine Ms.of 2 (by decide +kernel) rfl (fun z => absurd z (by decide)) (fun _ _ _ => trivial) rfl rfl ?_
  unfold f_X5_countMoves at h
  show Ev M_X5_countMoves 210 210 _ 0 210 rho σ [(2, (163 : Int)), (0, x1), (0, x2), (9, 0), (9, 0)] []
  refine ev_iload_n dX5_countMoves_0 rfl ?_
  refine ev_iconst dX5_countMoves_1 (by decide) ?_
  refine ev_isub dX5_countMoves_2 ?_
  refine ev_istore_nG dX5_countMoves_3 h rfl (by decide) (fun v1 h => ?_)
  show Ev _ _ _ _ 4 _ _ _ [(2, (163 : Int)), (0, x1), (0, x2), (0, v1), (9, 0)] _
  exact ev_sub (L2 := [(2, (163 : Int)), (0, x1), (0, x2), (0, v1), (9, 0)]) (e_X5_countMoves_4 σ x1 x2 v1 h) ⟨.inr rfl, .inr rfl, .inr rfl, .inr rfl, .inl rfl, trivial⟩
def K_X5_fill_3 (x2 x3 : Int) (r : Option V × Mem × Mem) : (Int × Mem) ⊕ ((Mem)) → Prop := Sum.elim (fun a => Ev M_X5_fill 210 210 r 3 210 rho a.2 [(2, (163 : Int)), (2, (1 : Int)), (0, x2), (1, x3), (9, 0), (0, a.1), (9, 0)] []) (fun e => Ev M_X5_fill 210 210 r 74 210 rho e [(9, 0), (9, 0), (9, 0), (9, 0), (9, 0), (9, 0), (9, 0)] [])
set_option maxHeartbeats 4000000 in
set_option maxRecDepth 20000 in
theorem e_X5_fill_68 (σ : Mem) (x2 x3 x5 : Int)  {q : ((Int × Mem) ⊕ ((Mem)))} (h : f_X5_fill_68 σ x2 x3 x5 = some q) {r : Option V × Mem × Mem} (K : K_X5_fill_3 x2 x3 r q) : Ev M_X5_fill 210 210 r 68 210 rho σ [(2, (163 : Int)), (2, (1 : Int)), (0, x2), (1, x3), (9, 0), (0, x5), (9, 0)] [] := by
  unfold f_X5_fill_68 at h
  refine ev_iincG dX5_fill_68 rfl h rfl (fun v6 h => ?_)
  show Ev _ _ _ _ 71 _ _ _ [(2, (163 : Int)), (2, (1 : Int)), (0, x2), (1, x3), (9, 0), (0, v6), (9, 0)] _
  refine ev_goto (tgt := 3) dX5_fill_71 rfl ?_
  obtain rfl := Option.some.inj h
  exact ev_sub (L2 := [(2, (163 : Int)), (2, (1 : Int)), (0, x2), (1, x3), (9, 0), (0, v6), (9, 0)]) K ⟨.inr rfl, .inr rfl, .inr rfl, .inr rfl, .inl rfl, .inr rfl, .inl rfl, trivial⟩
set_option maxHeartbeats 4000000 in
set_option maxRecDepth 20000 in
theorem b_X5_fill_3 (x2 x3 : Int)  {r : Option V × Mem × Mem} : ∀ a x, f_X5_fill_3B x2 x3 a = some x → K_X5_fill_3 x2 x3 r x → K_X5_fill_3 x2 x3 r (.inl a) := by
  intro a x h K
  obtain ⟨x5, σ⟩ := a
  have h : f_X5_fill_3C x2 x3 x5 σ = some x := h
  unfold f_X5_fill_3C at h
  show Ev M_X5_fill 210 210 r 3 210 rho σ [(2, (163 : Int)), (2, (1 : Int)), (0, x2), (1, x3), (9, 0), (0, x5), (9, 0)] []
  refine ev_iload dX5_fill_3 rfl ?_
  refine ev_bipush dX5_fill_5 (by decide) (by decide) ?_
  refine ev_icmp_ge (tgt := 74) dX5_fill_7 rfl h (fun cb h => ?_) (fun cb h => ?_)
  · obtain rfl := Option.some.inj h
    exact ev_sub (L2 := [(9, 0), (9, 0), (9, 0), (9, 0), (9, 0), (9, 0), (9, 0)]) K ⟨.inl rfl, .inl rfl, .inl rfl, .inl rfl, .inl rfl, .inl rfl, .inl rfl, trivial⟩
  refine ev_lload_n dX5_fill_10 rfl ?_
  refine ev_iload dX5_fill_11 rfl ?_
  obtain ⟨v1, hc2, h⟩ := bind_of h
  refine ev_invSN_v (av := [(1, x3), (0, x5)]) (st := []) (v := (0, v1)) (τ := σ) dX5_fill_13 ml_X5_87 mt_X10_hasSlot rfl ⟨Nat.le_of_ble_eq_true rfl, Nat.le_of_ble_eq_true rfl⟩ (Nat.le_of_ble_eq_true rfl) (c_X10_hasSlot hc2) ?_
  refine ev_if_eq (tgt := 68) dX5_fill_16 rfl h (fun cb h => ?_) (fun cb h => ?_)
  · exact ev_sub (L2 := [(2, (163 : Int)), (2, (1 : Int)), (0, x2), (1, x3), (9, 0), (0, x5), (9, 0)]) (e_X5_fill_68 σ x2 x3 x5 h K) ⟨.inr rfl, .inr rfl, .inr rfl, .inr rfl, .inl rfl, .inr rfl, .inl rfl, trivial⟩
  refine ev_iload_n dX5_fill_19 rfl ?_
  refine ev_bipush dX5_fill_20 (by decide) (by decide) ?_
  refine ev_imul dX5_fill_22 ?_
  refine ev_iload dX5_fill_23 rfl ?_
  refine ev_iadd dX5_fill_25 ?_
  refine ev_istoreG dX5_fill_26 h rfl (by decide) (fun v3 h => ?_)
  show Ev _ _ _ _ 28 _ _ _ [(2, (163 : Int)), (2, (1 : Int)), (0, x2), (1, x3), (9, 0), (0, x5), (0, v3)] _
  refine ev_aload_n dX5_fill_28 rfl (by decide) ?_
  refine ev_getf (j := 0) (t := 2) (x := (164 : Int)) dX5_fill_29 cf_X5 wf_X5_9 sp163 (by decide) (by decide) rfl (by decide) (rp163_0 _) ?_
  refine ev_iload dX5_fill_32 rfl ?_
  refine ev_dup2 dX5_fill_34 (show (0 : Nat) ≠ 1 by decide) (show (2 : Nat) ≠ 1 by decide) ?_
  refine ev_iald dX5_fill_35 sp164 (by decide) (by decide) h (fun h => ?_)
  show Ev _ _ _ _ 36 _ _ _ _ _
  refine ev_iconst dX5_fill_36 (by decide) ?_
  refine ev_iadd dX5_fill_37 ?_
  refine ev_iastG dX5_fill_38 sp164 (by decide) (by decide) h (fun σ4 h => ?_)
  refine ev_aload_n dX5_fill_39 rfl (by decide) ?_
  refine ev_getf (j := 0) (t := 2) (x := (164 : Int)) dX5_fill_40 cf_X5 wf_X5_9 sp163 (by decide) (by decide) rfl (by decide) (rp163_0 _) ?_
  refine ev_iload dX5_fill_43 rfl ?_
  refine ev_iald dX5_fill_45 sp164 (by decide) (by decide) h (fun h => ?_)
  refine ev_aload_n dX5_fill_46 rfl (by decide) ?_
  refine ev_getf (j := 7) (t := 2) (x := (9 : Int)) dX5_fill_47 cf_X0 wf_X5_91 sp1 (by decide) (by decide) rfl (by decide) (rp1_7 _) ?_
  refine ev_iload_n dX5_fill_50 rfl ?_
  refine ev_iald dX5_fill_51 sp9 (by decide) (by decide) h (fun h => ?_)
  refine ev_icmp_lt (tgt := 68) dX5_fill_52 rfl h (fun cb h => ?_) (fun cb h => ?_)
  · exact ev_sub (L2 := [(2, (163 : Int)), (2, (1 : Int)), (0, x2), (1, x3), (9, 0), (0, x5), (9, 0)]) (e_X5_fill_68 σ4 x2 x3 x5 h K) ⟨.inr rfl, .inr rfl, .inr rfl, .inr rfl, .inl rfl, .inr rfl, .inl rfl, trivial⟩
  refine ev_aload_n dX5_fill_55 rfl (by decide) ?_
  refine ev_getf (j := 1) (t := 2) (x := (165 : Int)) dX5_fill_56 cf_X5 wf_X5_15 sp163 (by decide) (by decide) rfl (by decide) (rp163_1 _) ?_
  refine ev_iload_n dX5_fill_59 rfl ?_
  refine ev_dup2 dX5_fill_60 (show (0 : Nat) ≠ 1 by decide) (show (2 : Nat) ≠ 1 by decide) ?_
  refine ev_lald dX5_fill_61 sp165 (by decide) (by decide) h (fun h => ?_)
  refine ev_lconst (x := (1 : Int)) dX5_fill_62 (by decide) (by decide) ?_
  refine ev_iload dX5_fill_63 rfl ?_
  refine ev_lshl dX5_fill_65 ?_
  refine ev_lor dX5_fill_66 ?_
  refine ev_lastG dX5_fill_67 sp165 (by decide) (by decide) h (fun σ5 h => ?_)
  exact ev_sub (L2 := [(2, (163 : Int)), (2, (1 : Int)), (0, x2), (1, x3), (9, 0), (0, x5), (9, 0)]) (e_X5_fill_68 σ5 x2 x3 x5 h K) ⟨.inr rfl, .inr rfl, .inr rfl, .inr rfl, .inl rfl, .inr rfl, .inl rfl, trivial⟩
set_option maxHeartbeats 4000000 in
set_option maxRecDepth 20000 in
theorem e_X5_fill_3 (σ : Mem) (x2 x3 x5 : Int)  {q : Mem} (h : f_X5_fill_3 σ x2 x3 x5 = some q) : Ev M_X5_fill 210 210 (none, rho, q) 3 210 rho σ [(2, (163 : Int)), (2, (1 : Int)), (0, x2), (1, x3), (9, 0), (0, x5), (9, 0)] [] := by
  unfold f_X5_fill_3 at h
  obtain ⟨e, hl, h⟩ := bind_of h
  refine loop_ev (K := K_X5_fill_3 x2 x3 (none, rho, q)) (b_X5_fill_3 x2 x3) FU (x5, σ) e hl ?_
  show Ev M_X5_fill 210 210 _ 74 210 rho e [(9, 0), (9, 0), (9, 0), (9, 0), (9, 0), (9, 0), (9, 0)] []
  replace h : some e = some q := h
  obtain rfl := Option.some.inj h
  exact ev_vret dX5_fill_74 rfl rfl
set_option maxHeartbeats 4000000 in
set_option maxRecDepth 20000 in
theorem c_X5_fill {σ : Mem} {x2 x3 : Int}  {q : Mem} (h : f_X5_fill σ x2 x3 = some q) : Ms yX5_fill M_X5_fill 210 210 [(2, (163 : Int)), (2, (1 : Int)), (0, x2), (1, x3)] rho σ (none, rho, q) := by
  refine Ms.of 2 (by decide +kernel) rfl (fun z => absurd z (by decide)) (fun _ _ _ => trivial) rfl rfl ?_
  unfold f_X5_fill at h
  show Ev M_X5_fill 210 210 _ 0 210 rho σ [(2, (163 : Int)), (2, (1 : Int)), (0, x2), (1, x3), (9, 0), (9, 0), (9, 0)] []
  refine ev_iconst dX5_fill_0 (by decide) ?_
  refine ev_istore dX5_fill_1 rfl (by decide) ?_
  show Ev _ _ _ _ 3 _ _ _ [(2, (163 : Int)), (2, (1 : Int)), (0, x2), (1, x3), (9, 0), (0, (0 : Int)), (9, 0)] _
  exact ev_sub (L2 := [(2, (163 : Int)), (2, (1 : Int)), (0, x2), (1, x3), (9, 0), (0, (0 : Int)), (9, 0)]) (e_X5_fill_3 σ x2 x3 (0 : Int) h) ⟨.inr rfl, .inr rfl, .inr rfl, .inr rfl, .inl rfl, .inr rfl, .inl rfl, trivial⟩
def K_X5_seat_94 (x2 x3 : Int) (r : Option V × Mem × Mem) : (Int × Int × Mem) ⊕ ((Mem)) → Prop := Sum.elim (fun a => Ev M_X5_seat 210 210 r 94 210 rho a.2.2 [(2, (163 : Int)), (2, (1 : Int)), (0, x2), (0, x3), (0, a.1), (0, a.2.1)] []) (fun e => Ev M_X5_seat 210 210 r 168 210 rho e [(9, 0), (9, 0), (9, 0), (9, 0), (9, 0), (9, 0)] [])
def K_X5_seat_10 (x2 x3 : Int) (r : Option V × Mem × Mem) : (Int × Mem) ⊕ ((Mem)) → Prop := Sum.elim (fun a => Ev M_X5_seat 210 210 r 10 210 rho a.2 [(2, (163 : Int)), (2, (1 : Int)), (0, x2), (0, x3), (0, a.1), (9, 0)] []) (fun e => Ev M_X5_seat 210 210 r 35 210 rho e [(2, (163 : Int)), (2, (1 : Int)), (0, x2), (0, x3), (9, 0), (9, 0)] [])
set_option maxHeartbeats 4000000 in
set_option maxRecDepth 20000 in
theorem e_X5_seat_160 (σ : Mem) (x2 x3 x5 s0 : Int)  {q : ((Int × Int × Mem) ⊕ ((Mem)))} (h : f_X5_seat_160 σ x2 x3 x5 s0 = some q) {r : Option V × Mem × Mem} (K : K_X5_seat_94 x2 x3 r q) : Ev M_X5_seat 210 210 r 160 210 rho σ [(2, (163 : Int)), (2, (1 : Int)), (0, x2), (0, x3), (9, 0), (0, x5)] [(0, s0)] := by
  unfold f_X5_seat_160 at h
  refine ev_istore dX5_seat_160 rfl (by decide) ?_
  show Ev _ _ _ _ 162 _ _ _ [(2, (163 : Int)), (2, (1 : Int)), (0, x2), (0, x3), (0, s0), (0, x5)] _
  refine ev_iincG dX5_seat_162 rfl h rfl (fun v15 h => ?_)
  show Ev _ _ _ _ 165 _ _ _ [(2, (163 : Int)), (2, (1 : Int)), (0, x2), (0, x3), (0, s0), (0, v15)] _
  refine ev_goto (tgt := 94) dX5_seat_165 rfl ?_
  obtain rfl := Option.some.inj h
  exact ev_sub (L2 := [(2, (163 : Int)), (2, (1 : Int)), (0, x2), (0, x3), (0, s0), (0, v15)]) K ⟨.inr rfl, .inr rfl, .inr rfl, .inr rfl, .inr rfl, .inr rfl, trivial⟩
set_option maxHeartbeats 4000000 in
set_option maxRecDepth 20000 in
theorem b_X5_seat_94 (x2 x3 : Int)  {r : Option V × Mem × Mem} : ∀ a x, f_X5_seat_94B x2 x3 a = some x → K_X5_seat_94 x2 x3 r x → K_X5_seat_94 x2 x3 r (.inl a) := by
  intro a x h K
  obtain ⟨x4, x5, σ⟩ := a
  have h : f_X5_seat_94C x2 x3 x4 x5 σ = some x := h
  unfold f_X5_seat_94C at h
  show Ev M_X5_seat 210 210 r 94 210 rho σ [(2, (163 : Int)), (2, (1 : Int)), (0, x2), (0, x3), (0, x4), (0, x5)] []
  refine ev_iload dX5_seat_94 rfl ?_
  refine ev_iload_n dX5_seat_96 rfl ?_
  refine ev_icmp_ge (tgt := 168) dX5_seat_97 rfl h (fun cb h => ?_) (fun cb h => ?_)
  · obtain rfl := Option.some.inj h
    exact ev_sub (L2 := [(9, 0), (9, 0), (9, 0), (9, 0), (9, 0), (9, 0)]) K ⟨.inl rfl, .inl rfl, .inl rfl, .inl rfl, .inl rfl, .inl rfl, trivial⟩
  refine ev_iload dX5_seat_100 rfl ?_
  refine ev_iconst dX5_seat_102 (by decide) ?_
  refine ev_icmp_eq (tgt := 168) dX5_seat_103 rfl h (fun cb h => ?_) (fun cb h => ?_)
  · obtain rfl := Option.some.inj h
    exact ev_sub (L2 := [(9, 0), (9, 0), (9, 0), (9, 0), (9, 0), (9, 0)]) K ⟨.inl rfl, .inl rfl, .inl rfl, .inl rfl, .inl rfl, .inl rfl, trivial⟩
  refine ev_aload_n dX5_seat_106 rfl (by decide) ?_
  refine ev_getf (j := 5) (t := 2) (x := (169 : Int)) dX5_seat_107 cf_X5 wf_X5_28 sp163 (by decide) (by decide) rfl (by decide) (rp163_5 _) ?_
  refine ev_iload_n dX5_seat_110 rfl ?_
  refine ev_bipush dX5_seat_111 (by decide) (by decide) ?_
  refine ev_imul dX5_seat_113 ?_
  refine ev_iload dX5_seat_114 rfl ?_
  refine ev_iadd dX5_seat_116 ?_
  refine ev_iload dX5_seat_117 rfl ?_
  refine ev_iastG dX5_seat_119 sp169 (by decide) (by decide) h (fun σ10 h => ?_)
  refine ev_aload_n dX5_seat_120 rfl (by decide) ?_
  refine ev_aload_n dX5_seat_121 rfl (by decide) ?_
  show Ev _ _ _ _ 122 _ _ _ _ _
  refine ev_iload dX5_seat_122 rfl ?_
  refine ev_aload_n dX5_seat_124 rfl (by decide) ?_
  refine ev_getf (j := 2) (t := 2) (x := (166 : Int)) dX5_seat_125 cf_X5 wf_X5_19 sp163 (by decide) (by decide) rfl (by decide) (rp163_2 _) ?_
  refine ev_iload dX5_seat_128 rfl ?_
  refine ev_lald dX5_seat_130 sp166 (by decide) (by decide) h (fun h => ?_)
  obtain ⟨σ11, hc12, h⟩ := bind_of h
  refine ev_invV_n (k := (163 : Int)) (av := [(2, (1 : Int)), (0, x4), (1, (σ10 (166 : Int) x5))]) (st := []) (τ := σ11) dX5_seat_131 ml_X5_76 mv_X5_fill (T := TX5) (ci := 4) rfl sp163 (by decide) (by decide) rfl ⟨Nat.le_of_ble_eq_true rfl, Nat.le_of_ble_eq_true rfl⟩ (Nat.le_of_ble_eq_true rfl) (c_X5_fill hc12) ?_
  refine ev_iload dX5_seat_134 rfl ?_
  refine ev_iconst dX5_seat_136 (by decide) ?_
  refine ev_iadd dX5_seat_137 ?_
  refine ev_iload_n dX5_seat_138 rfl ?_
  refine ev_icmp_ge (tgt := 159) dX5_seat_139 rfl h (fun cb h => ?_) (fun cb h => ?_)
  · refine ev_iconst dX5_seat_159 (by decide) ?_
    exact ev_sub (L2 := [(2, (163 : Int)), (2, (1 : Int)), (0, x2), (0, x3), (9, 0), (0, x5)]) (e_X5_seat_160 σ11 x2 x3 x5 (-1 : Int) h K) ⟨.inr rfl, .inr rfl, .inr rfl, .inr rfl, .inl rfl, .inr rfl, trivial⟩
  refine ev_aload_n dX5_seat_142 rfl (by decide) ?_
  refine ev_aload_n dX5_seat_143 rfl (by decide) ?_
  refine ev_getf (j := 10) (t := 0) (x := (σ11 (1 : Int) 10)) dX5_seat_144 cf_X0 wf_X5_65 sp1 (by decide) (by decide) rfl (by decide) rfl ?_
  refine ev_iload dX5_seat_147 rfl ?_
  refine ev_iconst dX5_seat_149 (by decide) ?_
  refine ev_iadd dX5_seat_150 ?_
  refine ev_iload dX5_seat_151 rfl ?_
  obtain ⟨v13, hc14, h⟩ := bind_of h
  refine ev_invV_v (k := (163 : Int)) (av := [(0, (σ11 (1 : Int) 10)), (0, (jadd x5 (1 : Int))), (0, x4)]) (st := []) (v := (0, v13)) (τ := σ11) dX5_seat_153 ml_X5_72 mv_X5_firstRoom (T := TX5) (ci := 4) rfl sp163 (by decide) (by decide) rfl ⟨Nat.le_of_ble_eq_true rfl, Nat.le_of_ble_eq_true rfl⟩ (Nat.le_of_ble_eq_true rfl) (c_X5_firstRoom hc14) ?_
  refine ev_goto (tgt := 160) dX5_seat_156 rfl ?_
  exact ev_sub (L2 := [(2, (163 : Int)), (2, (1 : Int)), (0, x2), (0, x3), (9, 0), (0, x5)]) (e_X5_seat_160 σ11 x2 x3 x5 v13 h K) ⟨.inr rfl, .inr rfl, .inr rfl, .inr rfl, .inl rfl, .inr rfl, trivial⟩
set_option maxHeartbeats 4000000 in
set_option maxRecDepth 20000 in
theorem e_X5_seat_94 (σ : Mem) (x2 x3 x4 x5 : Int)  {q : Mem} (h : f_X5_seat_94 σ x2 x3 x4 x5 = some q) : Ev M_X5_seat 210 210 (none, rho, q) 94 210 rho σ [(2, (163 : Int)), (2, (1 : Int)), (0, x2), (0, x3), (0, x4), (0, x5)] [] := by
  unfold f_X5_seat_94 at h
  obtain ⟨e, hl, h⟩ := bind_of h
  refine loop_ev (K := K_X5_seat_94 x2 x3 (none, rho, q)) (b_X5_seat_94 x2 x3) FU (x4, x5, σ) e hl ?_
  show Ev M_X5_seat 210 210 _ 168 210 rho e [(9, 0), (9, 0), (9, 0), (9, 0), (9, 0), (9, 0)] []
  replace h : some e = some q := h
  obtain rfl := Option.some.inj h
  exact ev_vret dX5_seat_168 rfl rfl
set_option maxHeartbeats 4000000 in
set_option maxRecDepth 20000 in
theorem e_X5_seat_90 (σ : Mem) (x2 x3 x4 s2 s1 : Int)  {q : Mem} (h : f_X5_seat_90 σ x2 x3 x4 s2 s1 = some q) : Ev M_X5_seat 210 210 (none, rho, q) 90 210 rho σ [(2, (163 : Int)), (2, (1 : Int)), (0, x2), (0, x3), (0, x4), (9, 0)] [(0, s2), (0, s1), (2, (168 : Int))] := by
  unfold f_X5_seat_90 at h
  refine ev_iastG dX5_seat_90 sp168 (by decide) (by decide) h (fun σ9 h => ?_)
  refine ev_iconst dX5_seat_91 (by decide) ?_
  refine ev_istore dX5_seat_92 rfl (by decide) ?_
  show Ev _ _ _ _ 94 _ _ _ [(2, (163 : Int)), (2, (1 : Int)), (0, x2), (0, x3), (0, x4), (0, (0 : Int))] _
  exact ev_sub (L2 := [(2, (163 : Int)), (2, (1 : Int)), (0, x2), (0, x3), (0, x4), (0, (0 : Int))]) (e_X5_seat_94 σ9 x2 x3 x4 (0 : Int) h) ⟨.inr rfl, .inr rfl, .inr rfl, .inr rfl, .inr rfl, .inr rfl, trivial⟩
set_option maxHeartbeats 4000000 in
set_option maxRecDepth 20000 in
theorem e_X5_seat_35 (σ : Mem) (x2 x3 : Int)  {q : Mem} (h : f_X5_seat_35 σ x2 x3 = some q) : Ev M_X5_seat 210 210 (none, rho, q) 35 210 rho σ [(2, (163 : Int)), (2, (1 : Int)), (0, x2), (0, x3), (9, 0), (9, 0)] [] := by
  unfold f_X5_seat_35 at h
  refine ev_aload_n dX5_seat_35 rfl (by decide) ?_
  refine ev_getf (j := 4) (t := 2) (x := (168 : Int)) dX5_seat_36 cf_X5 wf_X5_25 sp163 (by decide) (by decide) rfl (by decide) (rp163_4 _) ?_
  refine ev_iload_n dX5_seat_39 rfl ?_
  refine ev_iconst dX5_seat_40 (by decide) ?_
  refine ev_iastG dX5_seat_41 sp168 (by decide) (by decide) h (fun σ4 h => ?_)
  refine ev_iload_n dX5_seat_42 rfl ?_
  refine ev_if_ne (tgt := 47) dX5_seat_43 rfl h (fun cb h => ?_) (fun cb h => ?_)
  · refine ev_aload_n dX5_seat_47 rfl (by decide) ?_
    refine ev_aload_n dX5_seat_48 rfl (by decide) ?_
    refine ev_getf (j := 10) (t := 0) (x := (σ4 (1 : Int) 10)) dX5_seat_49 cf_X0 wf_X5_65 sp1 (by decide) (by decide) rfl (by decide) rfl ?_
    refine ev_iload_n dX5_seat_52 rfl ?_
    obtain ⟨σ5, hc6, h⟩ := bind_of h
    refine ev_invV_n (k := (163 : Int)) (av := [(0, (σ4 (1 : Int) 10)), (0, x3)]) (st := []) (τ := σ5) dX5_seat_53 ml_X5_68 mv_X5_countMoves (T := TX5) (ci := 4) rfl sp163 (by decide) (by decide) rfl ⟨Nat.le_of_ble_eq_true rfl, Nat.le_of_ble_eq_true rfl⟩ (Nat.le_of_ble_eq_true rfl) (c_X5_countMoves hc6) ?_
    refine ev_aload_n dX5_seat_56 rfl (by decide) ?_
    refine ev_aload_n dX5_seat_57 rfl (by decide) ?_
    refine ev_getf (j := 10) (t := 0) (x := (σ5 (1 : Int) 10)) dX5_seat_58 cf_X0 wf_X5_65 sp1 (by decide) (by decide) rfl (by decide) rfl ?_
    refine ev_iconst dX5_seat_61 (by decide) ?_
    refine ev_iconst dX5_seat_62 (by decide) ?_
    obtain ⟨v7, hc8, h⟩ := bind_of h
    refine ev_invV_v (k := (163 : Int)) (av := [(0, (σ5 (1 : Int) 10)), (0, (0 : Int)), (0, (-1 : Int))]) (st := []) (v := (0, v7)) (τ := σ5) dX5_seat_63 ml_X5_72 mv_X5_firstRoom (T := TX5) (ci := 4) rfl sp163 (by decide) (by decide) rfl ⟨Nat.le_of_ble_eq_true rfl, Nat.le_of_ble_eq_true rfl⟩ (Nat.le_of_ble_eq_true rfl) (c_X5_firstRoom hc8) ?_
    show Ev _ _ _ _ 66 _ _ _ _ _
    refine ev_istore dX5_seat_66 rfl (by decide) ?_
    show Ev _ _ _ _ 68 _ _ _ [(2, (163 : Int)), (2, (1 : Int)), (0, x2), (0, x3), (0, v7), (9, 0)] _
    refine ev_aload_n dX5_seat_68 rfl (by decide) ?_
    refine ev_getf (j := 4) (t := 2) (x := (168 : Int)) dX5_seat_69 cf_X5 wf_X5_25 sp163 (by decide) (by decide) rfl (by decide) (rp163_4 _) ?_
    refine ev_iload_n dX5_seat_72 rfl ?_
    refine ev_iload dX5_seat_73 rfl ?_
    refine ev_iconst dX5_seat_75 (by decide) ?_
    refine ev_icmp_ne (tgt := 83) dX5_seat_76 rfl h (fun cb h => ?_) (fun cb h => ?_)
    · refine ev_aload_n dX5_seat_83 rfl (by decide) ?_
      refine ev_getf (j := 6) (t := 2) (x := (170 : Int)) dX5_seat_84 cf_X5 wf_X5_31 sp163 (by decide) (by decide) rfl (by decide) (rp163_6 _) ?_
      refine ev_iload dX5_seat_87 rfl ?_
      refine ev_iald dX5_seat_89 sp170 (by decide) (by decide) h (fun h => ?_)
      exact ev_sub (L2 := [(2, (163 : Int)), (2, (1 : Int)), (0, x2), (0, x3), (0, v7), (9, 0)]) (e_X5_seat_90 σ5 x2 x3 v7 (σ5 (170 : Int) v7) x2 h) ⟨.inr rfl, .inr rfl, .inr rfl, .inr rfl, .inr rfl, .inl rfl, trivial⟩
    refine ev_iconst dX5_seat_79 (by decide) ?_
    refine ev_goto (tgt := 90) dX5_seat_80 rfl ?_
    exact ev_sub (L2 := [(2, (163 : Int)), (2, (1 : Int)), (0, x2), (0, x3), (0, v7), (9, 0)]) (e_X5_seat_90 σ5 x2 x3 v7 (-1 : Int) x2 h) ⟨.inr rfl, .inr rfl, .inr rfl, .inr rfl, .inr rfl, .inl rfl, trivial⟩
  obtain rfl := Option.some.inj h
  exact ev_vret dX5_seat_46 rfl rfl
set_option maxHeartbeats 4000000 in
set_option maxRecDepth 20000 in
theorem b_X5_seat_10 (x2 x3 : Int)  {r : Option V × Mem × Mem} : ∀ a x, f_X5_seat_10B x2 x3 a = some x → K_X5_seat_10 x2 x3 r x → K_X5_seat_10 x2 x3 r (.inl a) := by
  intro a x h K
  obtain ⟨x4, σ⟩ := a
  have h : f_X5_seat_10C x2 x3 x4 σ = some x := h
  unfold f_X5_seat_10C at h
  show Ev M_X5_seat 210 210 r 10 210 rho σ [(2, (163 : Int)), (2, (1 : Int)), (0, x2), (0, x3), (0, x4), (9, 0)] []
  refine ev_iload dX5_seat_10 rfl ?_
  refine ev_iload_n dX5_seat_12 rfl ?_
  refine ev_icmp_ge (tgt := 35) dX5_seat_13 rfl h (fun cb h => ?_) (fun cb h => ?_)
  · obtain rfl := Option.some.inj h
    exact ev_sub (L2 := [(2, (163 : Int)), (2, (1 : Int)), (0, x2), (0, x3), (9, 0), (9, 0)]) K ⟨.inr rfl, .inr rfl, .inr rfl, .inr rfl, .inl rfl, .inl rfl, trivial⟩
  refine ev_aload_n dX5_seat_16 rfl (by decide) ?_
  refine ev_getf (j := 5) (t := 2) (x := (169 : Int)) dX5_seat_17 cf_X5 wf_X5_28 sp163 (by decide) (by decide) rfl (by decide) (rp163_5 _) ?_
  refine ev_iload_n dX5_seat_20 rfl ?_
  refine ev_bipush dX5_seat_21 (by decide) (by decide) ?_
  refine ev_imul dX5_seat_23 ?_
  refine ev_iload dX5_seat_24 rfl ?_
  refine ev_iadd dX5_seat_26 ?_
  refine ev_iconst dX5_seat_27 (by decide) ?_
  refine ev_iastG dX5_seat_28 sp169 (by decide) (by decide) h (fun σ2 h => ?_)
  refine ev_iincG dX5_seat_29 rfl h rfl (fun v3 h => ?_)
  show Ev _ _ _ _ 32 _ _ _ [(2, (163 : Int)), (2, (1 : Int)), (0, x2), (0, x3), (0, v3), (9, 0)] _
  refine ev_goto (tgt := 10) dX5_seat_32 rfl ?_
  obtain rfl := Option.some.inj h
  exact ev_sub (L2 := [(2, (163 : Int)), (2, (1 : Int)), (0, x2), (0, x3), (0, v3), (9, 0)]) K ⟨.inr rfl, .inr rfl, .inr rfl, .inr rfl, .inr rfl, .inl rfl, trivial⟩
set_option maxHeartbeats 4000000 in
set_option maxRecDepth 20000 in
theorem e_X5_seat_10 (σ : Mem) (x2 x3 x4 : Int)  {q : Mem} (h : f_X5_seat_10 σ x2 x3 x4 = some q) : Ev M_X5_seat 210 210 (none, rho, q) 10 210 rho σ [(2, (163 : Int)), (2, (1 : Int)), (0, x2), (0, x3), (0, x4), (9, 0)] [] := by
  unfold f_X5_seat_10 at h
  obtain ⟨e, hl, h⟩ := bind_of h
  refine loop_ev (K := K_X5_seat_10 x2 x3 (none, rho, q)) (b_X5_seat_10 x2 x3) FU (x4, σ) e hl ?_
  show Ev M_X5_seat 210 210 _ 35 210 rho e [(2, (163 : Int)), (2, (1 : Int)), (0, x2), (0, x3), (9, 0), (9, 0)] []
  replace h : f_X5_seat_35 e x2 x3 = some q := h
  exact ev_sub (L2 := [(2, (163 : Int)), (2, (1 : Int)), (0, x2), (0, x3), (9, 0), (9, 0)]) (e_X5_seat_35 e x2 x3 h) ⟨.inr rfl, .inr rfl, .inr rfl, .inr rfl, .inl rfl, .inl rfl, trivial⟩
set_option maxHeartbeats 4000000 in
set_option maxRecDepth 20000 in
theorem c_X5_seat {σ : Mem} {x2 : Int}  {q : Mem} (h : f_X5_seat σ x2 = some q) : Ms yX5_seat M_X5_seat 210 210 [(2, (163 : Int)), (2, (1 : Int)), (0, x2)] rho σ (none, rho, q) := by
  refine Ms.of 3 (by decide +kernel) rfl (fun z => absurd z (by decide)) (fun _ _ _ => trivial) rfl rfl ?_
  unfold f_X5_seat at h
  show Ev M_X5_seat 210 210 _ 0 210 rho σ [(2, (163 : Int)), (2, (1 : Int)), (0, x2), (9, 0), (9, 0), (9, 0)] []
  refine ev_aload_n dX5_seat_0 rfl (by decide) ?_
  refine ev_getf (j := 3) (t := 2) (x := (167 : Int)) dX5_seat_1 cf_X5 wf_X5_22 sp163 (by decide) (by decide) rfl (by decide) (rp163_3 _) ?_
  refine ev_iload_n dX5_seat_4 rfl ?_
  refine ev_iald dX5_seat_5 sp167 (by decide) (by decide) h (fun h => ?_)
  refine ev_istore_nG dX5_seat_6 h rfl (by decide) (fun v1 h => ?_)
  show Ev _ _ _ _ 7 _ _ _ [(2, (163 : Int)), (2, (1 : Int)), (0, x2), (0, v1), (9, 0), (9, 0)] _
  refine ev_iconst dX5_seat_7 (by decide) ?_
  refine ev_istore dX5_seat_8 rfl (by decide) ?_
  show Ev _ _ _ _ 10 _ _ _ [(2, (163 : Int)), (2, (1 : Int)), (0, x2), (0, v1), (0, (0 : Int)), (9, 0)] _
  exact ev_sub (L2 := [(2, (163 : Int)), (2, (1 : Int)), (0, x2), (0, v1), (0, (0 : Int)), (9, 0)]) (e_X5_seat_10 σ x2 v1 (0 : Int) h) ⟨.inr rfl, .inr rfl, .inr rfl, .inr rfl, .inr rfl, .inl rfl, trivial⟩
def K_X5_lay_85 (x3 : Int) (r : Option V × Mem × Mem) : (Int × Mem) ⊕ ((Mem)) → Prop := Sum.elim (fun a => Ev M_X5_lay 210 210 r 85 210 rho a.2 [(2, (163 : Int)), (2, (1 : Int)), (2, (43 : Int)), (0, x3), (0, a.1)] []) (fun e => Ev M_X5_lay 210 210 r 128 210 rho e [(9, 0), (9, 0), (9, 0), (9, 0), (9, 0)] [])
def K_X5_lay_61 (x3 : Int) (r : Option V × Mem × Mem) : (Int × Mem) ⊕ ((Mem)) → Prop := Sum.elim (fun a => Ev M_X5_lay 210 210 r 61 210 rho a.2 [(2, (163 : Int)), (2, (1 : Int)), (2, (43 : Int)), (0, x3), (0, a.1)] []) (fun e => Ev M_X5_lay 210 210 r 82 210 rho e [(2, (163 : Int)), (2, (1 : Int)), (2, (43 : Int)), (0, x3), (9, 0)] [])
def K_X5_lay_36 (x3 : Int) (r : Option V × Mem × Mem) : (Int × Mem) ⊕ ((Mem)) → Prop := Sum.elim (fun a => Ev M_X5_lay 210 210 r 36 210 rho a.2 [(2, (163 : Int)), (2, (1 : Int)), (2, (43 : Int)), (0, x3), (0, a.1)] []) (fun e => Ev M_X5_lay 210 210 r 58 210 rho e [(2, (163 : Int)), (2, (1 : Int)), (2, (43 : Int)), (0, x3), (9, 0)] [])
set_option maxHeartbeats 4000000 in
set_option maxRecDepth 20000 in
theorem b_X5_lay_85 (x3 : Int)  {r : Option V × Mem × Mem} : ∀ a x, f_X5_lay_85B x3 a = some x → K_X5_lay_85 x3 r x → K_X5_lay_85 x3 r (.inl a) := by
  intro a x h K
  obtain ⟨x4, σ⟩ := a
  have h : f_X5_lay_85C x3 x4 σ = some x := h
  unfold f_X5_lay_85C at h
  show Ev M_X5_lay 210 210 r 85 210 rho σ [(2, (163 : Int)), (2, (1 : Int)), (2, (43 : Int)), (0, x3), (0, x4)] []
  refine ev_iload dX5_lay_85 rfl ?_
  refine ev_aload_n dX5_lay_87 rfl (by decide) ?_
  refine ev_getf (j := 9) (t := 0) (x := (σ (1 : Int) 9)) dX5_lay_88 cf_X0 wf_X5_46 sp1 (by decide) (by decide) rfl (by decide) rfl ?_
  refine ev_icmp_ge (tgt := 128) dX5_lay_91 rfl h (fun cb h => ?_) (fun cb h => ?_)
  · obtain rfl := Option.some.inj h
    exact ev_sub (L2 := [(9, 0), (9, 0), (9, 0), (9, 0), (9, 0)]) K ⟨.inl rfl, .inl rfl, .inl rfl, .inl rfl, .inl rfl, trivial⟩
  refine ev_aload_n dX5_lay_94 rfl (by decide) ?_
  refine ev_getf (j := 3) (t := 2) (x := (167 : Int)) dX5_lay_95 cf_X5 wf_X5_22 sp163 (by decide) (by decide) rfl (by decide) (rp163_3 _) ?_
  refine ev_iload dX5_lay_98 rfl ?_
  refine ev_aload_n dX5_lay_100 rfl (by decide) ?_
  refine ev_iload dX5_lay_101 rfl ?_
  obtain ⟨v11, hc12, h⟩ := bind_of h
  refine ev_invV_v (k := (43 : Int)) (av := [(0, x4)]) (st := [(0, x4), (2, (167 : Int))]) (v := (2, v11.1)) (τ := v11.2) dX5_lay_103 ml_X5_51 mv_X9_of (T := TX9) (ci := 8) rfl sp43 (by decide) (by decide) rfl ⟨Nat.le_of_ble_eq_true rfl, Nat.le_of_ble_eq_true rfl⟩ (Nat.le_of_ble_eq_true rfl) (c_X9_of hc12) ?_
  have hw13 := w_X9_of hc12
  refine ev_iload_n dX5_lay_106 rfl ?_
  refine ev_aload_n dX5_lay_107 rfl (by decide) ?_
  refine ev_getf (j := 2) (t := 2) (x := (166 : Int)) dX5_lay_108 cf_X5 wf_X5_19 sp163 (by decide) (by decide) rfl (by decide) (rp163_2 _) ?_
  obtain ⟨v14, hc15, h⟩ := bind_of h
  refine ev_invV_v (k := v11.1) (av := [(0, x3), (2, (166 : Int))]) (st := [(0, x4), (2, (167 : Int))]) (v := (0, v14.1)) (τ := v14.2) dX5_lay_111 ml_X5_55 mv_X8_piecesOf (T := TX8) (ci := 7) rfl (sW hw13) (pW hw13).1 (pW hw13).2 rfl ⟨Nat.le_of_ble_eq_true rfl, Nat.le_of_ble_eq_true rfl⟩ (Nat.le_of_ble_eq_true rfl) (c_X8_piecesOf hw13 hc15) ?_
  refine ev_iastG dX5_lay_114 sp167 (by decide) (by decide) h (fun σ16 h => ?_)
  show Ev _ _ _ _ 115 _ _ _ _ _
  refine ev_aload_n dX5_lay_115 rfl (by decide) ?_
  refine ev_aload_n dX5_lay_116 rfl (by decide) ?_
  refine ev_iload dX5_lay_117 rfl ?_
  obtain ⟨σ17, hc18, h⟩ := bind_of h
  refine ev_invV_n (k := (163 : Int)) (av := [(2, (1 : Int)), (0, x4)]) (st := []) (τ := σ17) dX5_lay_119 ml_X5_61 mv_X5_seat (T := TX5) (ci := 4) rfl sp163 (by decide) (by decide) rfl ⟨Nat.le_of_ble_eq_true rfl, Nat.le_of_ble_eq_true rfl⟩ (Nat.le_of_ble_eq_true rfl) (c_X5_seat hc18) ?_
  refine ev_iincG dX5_lay_122 rfl h rfl (fun v19 h => ?_)
  show Ev _ _ _ _ 125 _ _ _ [(2, (163 : Int)), (2, (1 : Int)), (2, (43 : Int)), (0, x3), (0, v19)] _
  refine ev_goto (tgt := 85) dX5_lay_125 rfl ?_
  obtain rfl := Option.some.inj h
  exact ev_sub (L2 := [(2, (163 : Int)), (2, (1 : Int)), (2, (43 : Int)), (0, x3), (0, v19)]) K ⟨.inr rfl, .inr rfl, .inr rfl, .inr rfl, .inr rfl, trivial⟩
set_option maxHeartbeats 4000000 in
set_option maxRecDepth 20000 in
theorem e_X5_lay_85 (σ : Mem) (x3 x4 : Int)  {q : Mem} (h : f_X5_lay_85 σ x3 x4 = some q) : Ev M_X5_lay 210 210 (none, rho, q) 85 210 rho σ [(2, (163 : Int)), (2, (1 : Int)), (2, (43 : Int)), (0, x3), (0, x4)] [] := by
  unfold f_X5_lay_85 at h
  obtain ⟨e, hl, h⟩ := bind_of h
  refine loop_ev (K := K_X5_lay_85 x3 (none, rho, q)) (b_X5_lay_85 x3) FU (x4, σ) e hl ?_
  show Ev M_X5_lay 210 210 _ 128 210 rho e [(9, 0), (9, 0), (9, 0), (9, 0), (9, 0)] []
  replace h : some e = some q := h
  obtain rfl := Option.some.inj h
  exact ev_vret dX5_lay_128 rfl rfl
set_option maxHeartbeats 4000000 in
set_option maxRecDepth 20000 in
theorem e_X5_lay_82 (σ : Mem) (x3 : Int)  {q : Mem} (h : f_X5_lay_82 σ x3 = some q) : Ev M_X5_lay 210 210 (none, rho, q) 82 210 rho σ [(2, (163 : Int)), (2, (1 : Int)), (2, (43 : Int)), (0, x3), (9, 0)] [] := by
  unfold f_X5_lay_82 at h
  refine ev_iconst dX5_lay_82 (by decide) ?_
  refine ev_istore dX5_lay_83 rfl (by decide) ?_
  show Ev _ _ _ _ 85 _ _ _ [(2, (163 : Int)), (2, (1 : Int)), (2, (43 : Int)), (0, x3), (0, (0 : Int))] _
  exact ev_sub (L2 := [(2, (163 : Int)), (2, (1 : Int)), (2, (43 : Int)), (0, x3), (0, (0 : Int))]) (e_X5_lay_85 σ x3 (0 : Int) h) ⟨.inr rfl, .inr rfl, .inr rfl, .inr rfl, .inr rfl, trivial⟩
set_option maxHeartbeats 4000000 in
set_option maxRecDepth 20000 in
theorem b_X5_lay_61 (x3 : Int)  {r : Option V × Mem × Mem} : ∀ a x, f_X5_lay_61B x3 a = some x → K_X5_lay_61 x3 r x → K_X5_lay_61 x3 r (.inl a) := by
  intro a x h K
  obtain ⟨x4, σ⟩ := a
  have h : f_X5_lay_61C x3 x4 σ = some x := h
  unfold f_X5_lay_61C at h
  show Ev M_X5_lay 210 210 r 61 210 rho σ [(2, (163 : Int)), (2, (1 : Int)), (2, (43 : Int)), (0, x3), (0, x4)] []
  refine ev_iload dX5_lay_61 rfl ?_
  refine ev_bipush dX5_lay_63 (by decide) (by decide) ?_
  refine ev_icmp_ge (tgt := 82) dX5_lay_65 rfl h (fun cb h => ?_) (fun cb h => ?_)
  · obtain rfl := Option.some.inj h
    exact ev_sub (L2 := [(2, (163 : Int)), (2, (1 : Int)), (2, (43 : Int)), (0, x3), (9, 0)]) K ⟨.inr rfl, .inr rfl, .inr rfl, .inr rfl, .inl rfl, trivial⟩
  refine ev_aload_n dX5_lay_68 rfl (by decide) ?_
  refine ev_getf (j := 1) (t := 2) (x := (165 : Int)) dX5_lay_69 cf_X5 wf_X5_15 sp163 (by decide) (by decide) rfl (by decide) (rp163_1 _) ?_
  refine ev_iload dX5_lay_72 rfl ?_
  refine ev_lconst (x := (0 : Int)) dX5_lay_74 (by decide) (by decide) ?_
  refine ev_lastG dX5_lay_75 sp165 (by decide) (by decide) h (fun σ9 h => ?_)
  refine ev_iincG dX5_lay_76 rfl h rfl (fun v10 h => ?_)
  show Ev _ _ _ _ 79 _ _ _ [(2, (163 : Int)), (2, (1 : Int)), (2, (43 : Int)), (0, x3), (0, v10)] _
  refine ev_goto (tgt := 61) dX5_lay_79 rfl ?_
  obtain rfl := Option.some.inj h
  exact ev_sub (L2 := [(2, (163 : Int)), (2, (1 : Int)), (2, (43 : Int)), (0, x3), (0, v10)]) K ⟨.inr rfl, .inr rfl, .inr rfl, .inr rfl, .inr rfl, trivial⟩
set_option maxHeartbeats 4000000 in
set_option maxRecDepth 20000 in
theorem e_X5_lay_61 (σ : Mem) (x3 x4 : Int)  {q : Mem} (h : f_X5_lay_61 σ x3 x4 = some q) : Ev M_X5_lay 210 210 (none, rho, q) 61 210 rho σ [(2, (163 : Int)), (2, (1 : Int)), (2, (43 : Int)), (0, x3), (0, x4)] [] := by
  unfold f_X5_lay_61 at h
  obtain ⟨e, hl, h⟩ := bind_of h
  refine loop_ev (K := K_X5_lay_61 x3 (none, rho, q)) (b_X5_lay_61 x3) FU (x4, σ) e hl ?_
  show Ev M_X5_lay 210 210 _ 82 210 rho e [(2, (163 : Int)), (2, (1 : Int)), (2, (43 : Int)), (0, x3), (9, 0)] []
  replace h : f_X5_lay_82 e x3 = some q := h
  exact ev_sub (L2 := [(2, (163 : Int)), (2, (1 : Int)), (2, (43 : Int)), (0, x3), (9, 0)]) (e_X5_lay_82 e x3 h) ⟨.inr rfl, .inr rfl, .inr rfl, .inr rfl, .inl rfl, trivial⟩
set_option maxHeartbeats 4000000 in
set_option maxRecDepth 20000 in
theorem e_X5_lay_58 (σ : Mem) (x3 : Int)  {q : Mem} (h : f_X5_lay_58 σ x3 = some q) : Ev M_X5_lay 210 210 (none, rho, q) 58 210 rho σ [(2, (163 : Int)), (2, (1 : Int)), (2, (43 : Int)), (0, x3), (9, 0)] [] := by
  unfold f_X5_lay_58 at h
  refine ev_iconst dX5_lay_58 (by decide) ?_
  refine ev_istore dX5_lay_59 rfl (by decide) ?_
  show Ev _ _ _ _ 61 _ _ _ [(2, (163 : Int)), (2, (1 : Int)), (2, (43 : Int)), (0, x3), (0, (0 : Int))] _
  exact ev_sub (L2 := [(2, (163 : Int)), (2, (1 : Int)), (2, (43 : Int)), (0, x3), (0, (0 : Int))]) (e_X5_lay_61 σ x3 (0 : Int) h) ⟨.inr rfl, .inr rfl, .inr rfl, .inr rfl, .inr rfl, trivial⟩
set_option maxHeartbeats 4000000 in
set_option maxRecDepth 20000 in
theorem b_X5_lay_36 (x3 : Int)  {r : Option V × Mem × Mem} : ∀ a x, f_X5_lay_36B x3 a = some x → K_X5_lay_36 x3 r x → K_X5_lay_36 x3 r (.inl a) := by
  intro a x h K
  obtain ⟨x4, σ⟩ := a
  have h : f_X5_lay_36C x3 x4 σ = some x := h
  unfold f_X5_lay_36C at h
  show Ev M_X5_lay 210 210 r 36 210 rho σ [(2, (163 : Int)), (2, (1 : Int)), (2, (43 : Int)), (0, x3), (0, x4)] []
  refine ev_iload dX5_lay_36 rfl ?_
  refine ev_sipush dX5_lay_38 (by decide) (by decide) ?_
  refine ev_icmp_ge (tgt := 58) dX5_lay_41 rfl h (fun cb h => ?_) (fun cb h => ?_)
  · obtain rfl := Option.some.inj h
    exact ev_sub (L2 := [(2, (163 : Int)), (2, (1 : Int)), (2, (43 : Int)), (0, x3), (9, 0)]) K ⟨.inr rfl, .inr rfl, .inr rfl, .inr rfl, .inl rfl, trivial⟩
  refine ev_aload_n dX5_lay_44 rfl (by decide) ?_
  refine ev_getf (j := 0) (t := 2) (x := (164 : Int)) dX5_lay_45 cf_X5 wf_X5_9 sp163 (by decide) (by decide) rfl (by decide) (rp163_0 _) ?_
  refine ev_iload dX5_lay_48 rfl ?_
  refine ev_iconst dX5_lay_50 (by decide) ?_
  refine ev_iastG dX5_lay_51 sp164 (by decide) (by decide) h (fun σ7 h => ?_)
  refine ev_iincG dX5_lay_52 rfl h rfl (fun v8 h => ?_)
  show Ev _ _ _ _ 55 _ _ _ [(2, (163 : Int)), (2, (1 : Int)), (2, (43 : Int)), (0, x3), (0, v8)] _
  refine ev_goto (tgt := 36) dX5_lay_55 rfl ?_
  obtain rfl := Option.some.inj h
  exact ev_sub (L2 := [(2, (163 : Int)), (2, (1 : Int)), (2, (43 : Int)), (0, x3), (0, v8)]) K ⟨.inr rfl, .inr rfl, .inr rfl, .inr rfl, .inr rfl, trivial⟩
set_option maxHeartbeats 4000000 in
set_option maxRecDepth 20000 in
theorem e_X5_lay_36 (σ : Mem) (x3 x4 : Int)  {q : Mem} (h : f_X5_lay_36 σ x3 x4 = some q) : Ev M_X5_lay 210 210 (none, rho, q) 36 210 rho σ [(2, (163 : Int)), (2, (1 : Int)), (2, (43 : Int)), (0, x3), (0, x4)] [] := by
  unfold f_X5_lay_36 at h
  obtain ⟨e, hl, h⟩ := bind_of h
  refine loop_ev (K := K_X5_lay_36 x3 (none, rho, q)) (b_X5_lay_36 x3) FU (x4, σ) e hl ?_
  show Ev M_X5_lay 210 210 _ 58 210 rho e [(2, (163 : Int)), (2, (1 : Int)), (2, (43 : Int)), (0, x3), (9, 0)] []
  replace h : f_X5_lay_58 e x3 = some q := h
  exact ev_sub (L2 := [(2, (163 : Int)), (2, (1 : Int)), (2, (43 : Int)), (0, x3), (9, 0)]) (e_X5_lay_58 e x3 h) ⟨.inr rfl, .inr rfl, .inr rfl, .inr rfl, .inl rfl, trivial⟩
set_option maxHeartbeats 4000000 in
set_option maxRecDepth 20000 in
theorem e_X5_lay_20 (σ : Mem) (x3 : Int)  {q : Mem} (h : f_X5_lay_20 σ x3 = some q) : Ev M_X5_lay 210 210 (none, rho, q) 20 210 rho σ [(2, (163 : Int)), (2, (1 : Int)), (2, (43 : Int)), (0, x3), (9, 0)] [] := by
  unfold f_X5_lay_20 at h
  refine ev_aload_n dX5_lay_20 rfl (by decide) ?_
  refine ev_aload_n dX5_lay_21 rfl (by decide) ?_
  obtain ⟨v3, hc4, h⟩ := bind_of h
  refine ev_invV_v (k := (43 : Int)) (av := []) (st := [(2, (163 : Int))]) (v := (0, v3)) (τ := σ) dX5_lay_22 ml_X5_38 mv_X9_edition (T := TX9) (ci := 8) rfl sp43 (by decide) (by decide) rfl ⟨Nat.le_of_ble_eq_true rfl, Nat.le_of_ble_eq_true rfl⟩ (Nat.le_of_ble_eq_true rfl) (c_X9_edition hc4) ?_
  refine ev_putfG (j := 8) (t := 0) dX5_lay_25 cf_X5 wf_X5_34 sp163 (by decide) (by decide) rfl (by decide) (by decide) rfl (fun z => absurd z (by decide +kernel)) h (fun σ5 h => ?_)
  refine ev_aload_n dX5_lay_28 rfl (by decide) ?_
  refine ev_iload_n dX5_lay_29 rfl ?_
  refine ev_putfG (j := 7) (t := 0) dX5_lay_30 cf_X5 wf_X5_43 sp163 (by decide) (by decide) rfl (by decide) (by decide) rfl (fun z => absurd z (by decide +kernel)) h (fun σ6 h => ?_)
  refine ev_iconst dX5_lay_33 (by decide) ?_
  refine ev_istore dX5_lay_34 rfl (by decide) ?_
  show Ev _ _ _ _ 36 _ _ _ [(2, (163 : Int)), (2, (1 : Int)), (2, (43 : Int)), (0, x3), (0, (0 : Int))] _
  exact ev_sub (L2 := [(2, (163 : Int)), (2, (1 : Int)), (2, (43 : Int)), (0, x3), (0, (0 : Int))]) (e_X5_lay_36 σ6 x3 (0 : Int) h) ⟨.inr rfl, .inr rfl, .inr rfl, .inr rfl, .inr rfl, trivial⟩
set_option maxHeartbeats 4000000 in
set_option maxRecDepth 20000 in
theorem c_X5_lay {σ : Mem} {x3 : Int}  {q : Mem} (h : f_X5_lay σ x3 = some q) : Ms yX5_lay M_X5_lay 210 210 [(2, (163 : Int)), (2, (1 : Int)), (2, (43 : Int)), (0, x3)] rho σ (none, rho, q) := by
  refine Ms.of 1 (by decide +kernel) rfl (fun z => absurd z (by decide)) (fun _ _ _ => trivial) rfl rfl ?_
  unfold f_X5_lay at h
  show Ev M_X5_lay 210 210 _ 0 210 rho σ [(2, (163 : Int)), (2, (1 : Int)), (2, (43 : Int)), (0, x3), (9, 0)] []
  refine ev_aload_n dX5_lay_0 rfl (by decide) ?_
  refine ev_getf (j := 8) (t := 0) (x := (σ (163 : Int) 8)) dX5_lay_1 cf_X5 wf_X5_34 sp163 (by decide) (by decide) rfl (by decide) rfl ?_
  refine ev_aload_n dX5_lay_4 rfl (by decide) ?_
  obtain ⟨v1, hc2, h⟩ := bind_of h
  refine ev_invV_v (k := (43 : Int)) (av := []) (st := [(0, (σ (163 : Int) 8))]) (v := (0, v1)) (τ := σ) dX5_lay_5 ml_X5_38 mv_X9_edition (T := TX9) (ci := 8) rfl sp43 (by decide) (by decide) rfl ⟨Nat.le_of_ble_eq_true rfl, Nat.le_of_ble_eq_true rfl⟩ (Nat.le_of_ble_eq_true rfl) (c_X9_edition hc2) ?_
  refine ev_icmp_ne (tgt := 20) dX5_lay_8 rfl h (fun cb h => ?_) (fun cb h => ?_)
  · exact ev_sub (L2 := [(2, (163 : Int)), (2, (1 : Int)), (2, (43 : Int)), (0, x3), (9, 0)]) (e_X5_lay_20 σ x3 h) ⟨.inr rfl, .inr rfl, .inr rfl, .inr rfl, .inl rfl, trivial⟩
  refine ev_aload_n dX5_lay_11 rfl (by decide) ?_
  refine ev_getf (j := 7) (t := 0) (x := (σ (163 : Int) 7)) dX5_lay_12 cf_X5 wf_X5_43 sp163 (by decide) (by decide) rfl (by decide) rfl ?_
  refine ev_iload_n dX5_lay_15 rfl ?_
  refine ev_icmp_ne (tgt := 20) dX5_lay_16 rfl h (fun cb h => ?_) (fun cb h => ?_)
  · exact ev_sub (L2 := [(2, (163 : Int)), (2, (1 : Int)), (2, (43 : Int)), (0, x3), (9, 0)]) (e_X5_lay_20 σ x3 h) ⟨.inr rfl, .inr rfl, .inr rfl, .inr rfl, .inl rfl, trivial⟩
  obtain rfl := Option.some.inj h
  exact ev_vret dX5_lay_19 rfl rfl
set_option maxHeartbeats 4000000 in
set_option maxRecDepth 20000 in
theorem c_X6_isShelf {σ : Mem} {x0 : Int}  {q : Int} (h : f_X6_isShelf σ x0 = some q) : Ms yX6_isShelf M_X6_isShelf 210 210 [(0, x0)] rho σ (some (0, q), rho, σ) := by
  refine Ms.of 0 (by decide +kernel) rfl (fun z => absurd z (by decide)) (fun _ _ _ => trivial) rfl rfl ?_
  unfold f_X6_isShelf at h
  show Ev M_X6_isShelf 210 210 _ 0 210 rho σ [(0, x0)] []
  refine ev_iload_n dX6_isShelf_0 rfl ?_
  refine ev_if_lt (tgt := 14) dX6_isShelf_1 rfl h (fun cb h => ?_) (fun cb h => ?_)
  · refine ev_iconst dX6_isShelf_14 (by decide) ?_
    obtain rfl := Option.some.inj h
    exact ev_zret dX6_isShelf_15 rfl (chk_pos (.inl rfl))
  refine ev_iload_n dX6_isShelf_4 rfl ?_
  refine ev_bipush dX6_isShelf_5 (by decide) (by decide) ?_
  refine ev_icmp_ge (tgt := 14) dX6_isShelf_7 rfl h (fun cb h => ?_) (fun cb h => ?_)
  · refine ev_iconst dX6_isShelf_14 (by decide) ?_
    obtain rfl := Option.some.inj h
    exact ev_zret dX6_isShelf_15 rfl (chk_pos (.inl rfl))
  refine ev_iconst dX6_isShelf_10 (by decide) ?_
  refine ev_goto (tgt := 15) dX6_isShelf_11 rfl ?_
  obtain rfl := Option.some.inj h
  exact ev_zret dX6_isShelf_15 rfl (chk_pos (.inr rfl))
set_option maxHeartbeats 4000000 in
set_option maxRecDepth 20000 in
theorem c_X6_isSort {σ : Mem} {x0 : Int}  {q : Int} (h : f_X6_isSort σ x0 = some q) : Ms yX6_isSort M_X6_isSort 210 210 [(0, x0)] rho σ (some (0, q), rho, σ) := by
  refine Ms.of 0 (by decide +kernel) rfl (fun z => absurd z (by decide)) (fun _ _ _ => trivial) rfl rfl ?_
  unfold f_X6_isSort at h
  show Ev M_X6_isSort 210 210 _ 0 210 rho σ [(0, x0)] []
  refine ev_iload_n dX6_isSort_0 rfl ?_
  refine ev_if_lt (tgt := 13) dX6_isSort_1 rfl h (fun cb h => ?_) (fun cb h => ?_)
  · refine ev_iconst dX6_isSort_13 (by decide) ?_
    obtain rfl := Option.some.inj h
    exact ev_zret dX6_isSort_14 rfl (chk_pos (.inl rfl))
  refine ev_iload_n dX6_isSort_4 rfl ?_
  refine ev_iconst dX6_isSort_5 (by decide) ?_
  refine ev_icmp_gt (tgt := 13) dX6_isSort_6 rfl h (fun cb h => ?_) (fun cb h => ?_)
  · refine ev_iconst dX6_isSort_13 (by decide) ?_
    obtain rfl := Option.some.inj h
    exact ev_zret dX6_isSort_14 rfl (chk_pos (.inl rfl))
  refine ev_iconst dX6_isSort_9 (by decide) ?_
  refine ev_goto (tgt := 14) dX6_isSort_10 rfl ?_
  obtain rfl := Option.some.inj h
  exact ev_zret dX6_isSort_14 rfl (chk_pos (.inr rfl))
set_option maxHeartbeats 4000000 in
set_option maxRecDepth 20000 in
theorem c_X6_holding {σ : Mem} {x1 : Int}  {q : Int} (h : f_X6_holding σ x1 = some q) : Ms yX6_holding M_X6_holding 210 210 [(2, (30 : Int)), (0, x1)] rho σ (some (0, q), rho, σ) := by
  refine Ms.of 0 (by decide +kernel) rfl (fun z => absurd z (by decide)) (fun _ _ _ => trivial) rfl rfl ?_
  unfold f_X6_holding at h
  show Ev M_X6_holding 210 210 _ 0 210 rho σ [(2, (30 : Int)), (0, x1)] []
  refine ev_iload_n dX6_holding_0 rfl ?_
  obtain ⟨v1, hc2, h⟩ := bind_of h
  refine ev_invS_v (av := [(0, x1)]) (st := []) (v := (0, v1)) (τ := σ) dX6_holding_1 ml_X6_22 mt_X6_isShelf rfl ⟨Nat.le_of_ble_eq_true rfl, Nat.le_of_ble_eq_true rfl⟩ (Nat.le_of_ble_eq_true rfl) (c_X6_isShelf hc2) ?_
  refine ev_if_eq (tgt := 16) dX6_holding_4 rfl h (fun cb h => ?_) (fun cb h => ?_)
  · refine ev_iconst dX6_holding_16 (by decide) ?_
    obtain rfl := Option.some.inj h
    exact ev_iret dX6_holding_17 rfl rfl
  refine ev_aload_n dX6_holding_7 rfl (by decide) ?_
  refine ev_getf (j := 0) (t := 2) (x := (31 : Int)) dX6_holding_8 cf_X6 wf_X6_9 sp30 (by decide) (by decide) rfl (by decide) (rp30_0 _) ?_
  refine ev_iload_n dX6_holding_11 rfl ?_
  refine ev_iald dX6_holding_12 sp31 (by decide) (by decide) h (fun h => ?_)
  refine ev_goto (tgt := 17) dX6_holding_13 rfl ?_
  obtain rfl := Option.some.inj h
  exact ev_iret dX6_holding_17 rfl rfl
set_option maxHeartbeats 4000000 in
set_option maxRecDepth 20000 in
theorem c_X6_rowTrouble {σ : Mem} {x1 : Int}  {q : Int} (h : f_X6_rowTrouble σ x1 = some q) : Ms yX6_rowTrouble M_X6_rowTrouble 210 210 [(2, (30 : Int)), (0, x1)] rho σ (some (0, q), rho, σ) := by
  refine Ms.of 1 (by decide +kernel) rfl (fun z => absurd z (by decide)) (fun _ _ _ => trivial) rfl rfl ?_
  unfold f_X6_rowTrouble at h
  show Ev M_X6_rowTrouble 210 210 _ 0 210 rho σ [(2, (30 : Int)), (0, x1), (9, 0)] []
  refine ev_aload_n dX6_rowTrouble_0 rfl (by decide) ?_
  refine ev_iload_n dX6_rowTrouble_1 rfl ?_
  obtain ⟨v1, hc2, h⟩ := bind_of h
  refine ev_invV_v (k := (30 : Int)) (av := [(0, x1)]) (st := []) (v := (0, v1)) (τ := σ) dX6_rowTrouble_2 ml_X6_26 mv_X6_holding (T := TX6) (ci := 5) rfl sp30 (by decide) (by decide) rfl ⟨Nat.le_of_ble_eq_true rfl, Nat.le_of_ble_eq_true rfl⟩ (Nat.le_of_ble_eq_true rfl) (c_X6_holding hc2) ?_
  refine ev_istore_n dX6_rowTrouble_5 rfl (by decide) ?_
  show Ev _ _ _ _ 6 _ _ _ [(2, (30 : Int)), (0, x1), (0, v1)] _
  refine ev_iload_n dX6_rowTrouble_6 rfl ?_
  refine ev_iconst dX6_rowTrouble_7 (by decide) ?_
  refine ev_icmp_ne (tgt := 14) dX6_rowTrouble_8 rfl h (fun cb h => ?_) (fun cb h => ?_)
  · refine ev_iload_n dX6_rowTrouble_14 rfl ?_
    refine ev_bipush dX6_rowTrouble_15 (by decide) (by decide) ?_
    refine ev_icmp_lt (tgt := 25) dX6_rowTrouble_17 rfl h (fun cb h => ?_) (fun cb h => ?_)
    · refine ev_iconst dX6_rowTrouble_25 (by decide) ?_
      obtain rfl := Option.some.inj h
      exact ev_iret dX6_rowTrouble_26 rfl rfl
    refine ev_bipush dX6_rowTrouble_20 (by decide) (by decide) ?_
    refine ev_goto (tgt := 26) dX6_rowTrouble_22 rfl ?_
    obtain rfl := Option.some.inj h
    exact ev_iret dX6_rowTrouble_26 rfl rfl
  refine ev_bipush dX6_rowTrouble_11 (by decide) (by decide) ?_
  obtain rfl := Option.some.inj h
  exact ev_iret dX6_rowTrouble_13 rfl rfl
set_option maxHeartbeats 4000000 in
set_option maxRecDepth 20000 in
theorem c_X6_candOn {σ : Mem} {x1 : Int}  {q : Int} (h : f_X6_candOn σ x1 = some q) : Ms yX6_candOn M_X6_candOn 210 210 [(2, (30 : Int)), (0, x1)] rho σ (some (0, q), rho, σ) := by
  refine Ms.of 1 (by decide +kernel) rfl (fun z => absurd z (by decide)) (fun _ _ _ => trivial) rfl rfl ?_
  unfold f_X6_candOn at h
  show Ev M_X6_candOn 210 210 _ 0 210 rho σ [(2, (30 : Int)), (0, x1), (9, 0)] []
  refine ev_aload_n dX6_candOn_0 rfl (by decide) ?_
  refine ev_iload_n dX6_candOn_1 rfl ?_
  obtain ⟨v1, hc2, h⟩ := bind_of h
  refine ev_invV_v (k := (30 : Int)) (av := [(0, x1)]) (st := []) (v := (0, v1)) (τ := σ) dX6_candOn_2 ml_X6_26 mv_X6_holding (T := TX6) (ci := 5) rfl sp30 (by decide) (by decide) rfl ⟨Nat.le_of_ble_eq_true rfl, Nat.le_of_ble_eq_true rfl⟩ (Nat.le_of_ble_eq_true rfl) (c_X6_holding hc2) ?_
  refine ev_istore_n dX6_candOn_5 rfl (by decide) ?_
  show Ev _ _ _ _ 6 _ _ _ [(2, (30 : Int)), (0, x1), (0, v1)] _
  refine ev_iload_n dX6_candOn_6 rfl ?_
  refine ev_bipush dX6_candOn_7 (by decide) (by decide) ?_
  refine ev_icmp_lt (tgt := 19) dX6_candOn_9 rfl h (fun cb h => ?_) (fun cb h => ?_)
  · refine ev_iconst dX6_candOn_19 (by decide) ?_
    obtain rfl := Option.some.inj h
    exact ev_iret dX6_candOn_20 rfl rfl
  refine ev_iload_n dX6_candOn_12 rfl ?_
  refine ev_bipush dX6_candOn_13 (by decide) (by decide) ?_
  refine ev_isub dX6_candOn_15 ?_
  refine ev_goto (tgt := 20) dX6_candOn_16 rfl ?_
  obtain rfl := Option.some.inj h
  exact ev_iret dX6_candOn_20 rfl rfl
def K_X6_putRow_17 (x1 : Int) (r : Option V × Mem × Mem) : (Int × Mem) ⊕ ((Mem)) → Prop := Sum.elim (fun a => Ev M_X6_putRow 210 210 r 17 210 rho a.2 [(2, (30 : Int)), (0, x1), (9, 0), (9, 0), (0, a.1)] []) (fun e => Ev M_X6_putRow 210 210 r 43 210 rho e [(9, 0), (9, 0), (9, 0), (9, 0), (9, 0)] [])
set_option maxHeartbeats 4000000 in
set_option maxRecDepth 20000 in
theorem b_X6_putRow_17 (x1 : Int)  {r : Option V × Mem × Mem} : ∀ a x, f_X6_putRow_17B x1 a = some x → K_X6_putRow_17 x1 r x → K_X6_putRow_17 x1 r (.inl a) := by
  intro a x h K
  obtain ⟨x4, σ⟩ := a
  have h : f_X6_putRow_17C x1 x4 σ = some x := h
  unfold f_X6_putRow_17C at h
  show Ev M_X6_putRow 210 210 r 17 210 rho σ [(2, (30 : Int)), (0, x1), (9, 0), (9, 0), (0, x4)] []
  refine ev_iload dX6_putRow_17 rfl ?_
  refine ev_bipush dX6_putRow_19 (by decide) (by decide) ?_
  refine ev_icmp_ge (tgt := 43) dX6_putRow_21 rfl h (fun cb h => ?_) (fun cb h => ?_)
  · obtain rfl := Option.some.inj h
    exact ev_sub (L2 := [(9, 0), (9, 0), (9, 0), (9, 0), (9, 0)]) K ⟨.inl rfl, .inl rfl, .inl rfl, .inl rfl, .inl rfl, trivial⟩
  refine ev_aload_n dX6_putRow_24 rfl (by decide) ?_
  refine ev_getf (j := 2) (t := 2) (x := (33 : Int)) dX6_putRow_25 cf_X6 wf_X6_18 sp30 (by decide) (by decide) rfl (by decide) (rp30_2 _) ?_
  refine ev_iload_n dX6_putRow_28 rfl ?_
  refine ev_bipush dX6_putRow_29 (by decide) (by decide) ?_
  refine ev_imul dX6_putRow_31 ?_
  refine ev_iload dX6_putRow_32 rfl ?_
  refine ev_iadd dX6_putRow_34 ?_
  refine ev_lconst (x := (0 : Int)) dX6_putRow_35 (by decide) (by decide) ?_
  refine ev_lastG dX6_putRow_36 sp33 (by decide) (by decide) h (fun σ3 h => ?_)
  refine ev_iincG dX6_putRow_37 rfl h rfl (fun v4 h => ?_)
  show Ev _ _ _ _ 40 _ _ _ [(2, (30 : Int)), (0, x1), (9, 0), (9, 0), (0, v4)] _
  refine ev_goto (tgt := 17) dX6_putRow_40 rfl ?_
  obtain rfl := Option.some.inj h
  exact ev_sub (L2 := [(2, (30 : Int)), (0, x1), (9, 0), (9, 0), (0, v4)]) K ⟨.inr rfl, .inr rfl, .inl rfl, .inl rfl, .inr rfl, trivial⟩
set_option maxHeartbeats 4000000 in
set_option maxRecDepth 20000 in
theorem e_X6_putRow_17 (σ : Mem) (x1 x4 : Int)  {q : Mem} (h : f_X6_putRow_17 σ x1 x4 = some q) : Ev M_X6_putRow 210 210 (none, rho, q) 17 210 rho σ [(2, (30 : Int)), (0, x1), (9, 0), (9, 0), (0, x4)] [] := by
  unfold f_X6_putRow_17 at h
  obtain ⟨e, hl, h⟩ := bind_of h
  refine loop_ev (K := K_X6_putRow_17 x1 (none, rho, q)) (b_X6_putRow_17 x1) FU (x4, σ) e hl ?_
  show Ev M_X6_putRow 210 210 _ 43 210 rho e [(9, 0), (9, 0), (9, 0), (9, 0), (9, 0)] []
  replace h : some e = some q := h
  obtain rfl := Option.some.inj h
  exact ev_vret dX6_putRow_43 rfl rfl
set_option maxHeartbeats 4000000 in
set_option maxRecDepth 20000 in
theorem c_X6_putRow {σ : Mem} {x1 x2 x3 : Int}  {q : Mem} (h : f_X6_putRow σ x1 x2 x3 = some q) : Ms yX6_putRow M_X6_putRow 210 210 [(2, (30 : Int)), (0, x1), (0, x2), (0, x3)] rho σ (none, rho, q) := by
  refine Ms.of 1 (by decide +kernel) rfl (fun z => absurd z (by decide)) (fun _ _ _ => trivial) rfl rfl ?_
  unfold f_X6_putRow at h
  show Ev M_X6_putRow 210 210 _ 0 210 rho σ [(2, (30 : Int)), (0, x1), (0, x2), (0, x3), (9, 0)] []
  refine ev_aload_n dX6_putRow_0 rfl (by decide) ?_
  refine ev_getf (j := 0) (t := 2) (x := (31 : Int)) dX6_putRow_1 cf_X6 wf_X6_9 sp30 (by decide) (by decide) rfl (by decide) (rp30_0 _) ?_
  refine ev_iload_n dX6_putRow_4 rfl ?_
  refine ev_iload_n dX6_putRow_5 rfl ?_
  refine ev_iastG dX6_putRow_6 sp31 (by decide) (by decide) h (fun σ1 h => ?_)
  refine ev_aload_n dX6_putRow_7 rfl (by decide) ?_
  refine ev_getf (j := 1) (t := 2) (x := (32 : Int)) dX6_putRow_8 cf_X6 wf_X6_15 sp30 (by decide) (by decide) rfl (by decide) (rp30_1 _) ?_
  refine ev_iload_n dX6_putRow_11 rfl ?_
  refine ev_iload_n dX6_putRow_12 rfl ?_
  refine ev_iastG dX6_putRow_13 sp32 (by decide) (by decide) h (fun σ2 h => ?_)
  refine ev_iconst dX6_putRow_14 (by decide) ?_
  show Ev _ _ _ _ 15 _ _ _ _ _
  refine ev_istore dX6_putRow_15 rfl (by decide) ?_
  show Ev _ _ _ _ 17 _ _ _ [(2, (30 : Int)), (0, x1), (0, x2), (0, x3), (0, (0 : Int))] _
  exact ev_sub (L2 := [(2, (30 : Int)), (0, x1), (9, 0), (9, 0), (0, (0 : Int))]) (e_X6_putRow_17 σ2 x1 (0 : Int) h) ⟨.inr rfl, .inr rfl, .inl rfl, .inl rfl, .inr rfl, trivial⟩
set_option maxHeartbeats 4000000 in
set_option maxRecDepth 20000 in
theorem e_X6_putCand_18 (σ : Mem) (x1 s2 s1 : Int)  {q : Mem} (h : f_X6_putCand_18 σ x1 s2 s1 = some q) : Ev M_X6_putCand 210 210 (none, rho, q) 18 210 rho σ [(2, (30 : Int)), (0, x1), (9, 0)] [(0, s2), (0, s1), (2, (31 : Int))] := by
  unfold f_X6_putCand_18 at h
  refine ev_iastG dX6_putCand_18 sp31 (by decide) (by decide) h (fun σ1 h => ?_)
  refine ev_aload_n dX6_putCand_19 rfl (by decide) ?_
  refine ev_getf (j := 1) (t := 2) (x := (32 : Int)) dX6_putCand_20 cf_X6 wf_X6_15 sp30 (by decide) (by decide) rfl (by decide) (rp30_1 _) ?_
  refine ev_iload_n dX6_putCand_23 rfl ?_
  refine ev_iconst dX6_putCand_24 (by decide) ?_
  refine ev_iastG dX6_putCand_25 sp32 (by decide) (by decide) h (fun σ2 h => ?_)
  obtain rfl := Option.some.inj h
  exact ev_vret dX6_putCand_26 rfl rfl
set_option maxHeartbeats 4000000 in
set_option maxRecDepth 20000 in
theorem c_X6_putCand {σ : Mem} {x1 x2 : Int}  {q : Mem} (h : f_X6_putCand σ x1 x2 = some q) : Ms yX6_putCand M_X6_putCand 210 210 [(2, (30 : Int)), (0, x1), (0, x2)] rho σ (none, rho, q) := by
  refine Ms.of 0 (by decide +kernel) rfl (fun z => absurd z (by decide)) (fun _ _ _ => trivial) rfl rfl ?_
  unfold f_X6_putCand at h
  show Ev M_X6_putCand 210 210 _ 0 210 rho σ [(2, (30 : Int)), (0, x1), (0, x2)] []
  refine ev_aload_n dX6_putCand_0 rfl (by decide) ?_
  refine ev_getf (j := 0) (t := 2) (x := (31 : Int)) dX6_putCand_1 cf_X6 wf_X6_9 sp30 (by decide) (by decide) rfl (by decide) (rp30_0 _) ?_
  refine ev_iload_n dX6_putCand_4 rfl ?_
  refine ev_iload_n dX6_putCand_5 rfl ?_
  refine ev_iconst dX6_putCand_6 (by decide) ?_
  refine ev_icmp_ne (tgt := 14) dX6_putCand_7 rfl h (fun cb h => ?_) (fun cb h => ?_)
  · refine ev_bipush dX6_putCand_14 (by decide) (by decide) ?_
    refine ev_iload_n dX6_putCand_16 rfl ?_
    refine ev_iadd dX6_putCand_17 ?_
    exact ev_sub (L2 := [(2, (30 : Int)), (0, x1), (9, 0)]) (e_X6_putCand_18 σ x1 (jadd (10 : Int) x2) x1 h) ⟨.inr rfl, .inr rfl, .inl rfl, trivial⟩
  refine ev_iconst dX6_putCand_10 (by decide) ?_
  refine ev_goto (tgt := 18) dX6_putCand_11 rfl ?_
  exact ev_sub (L2 := [(2, (30 : Int)), (0, x1), (9, 0)]) (e_X6_putCand_18 σ x1 (-1 : Int) x1 h) ⟨.inr rfl, .inr rfl, .inl rfl, trivial⟩
set_option maxHeartbeats 4000000 in
set_option maxRecDepth 20000 in
theorem c_X6_hasElement {σ : Mem} {x1 x2 : Int}  {q : Int} (h : f_X6_hasElement σ x1 x2 = some q) : Ms yX6_hasElement M_X6_hasElement 210 210 [(2, (30 : Int)), (0, x1), (0, x2)] rho σ (some (0, q), rho, σ) := by
  refine Ms.of 0 (by decide +kernel) rfl (fun z => absurd z (by decide)) (fun _ _ _ => trivial) rfl rfl ?_
  unfold f_X6_hasElement at h
  show Ev M_X6_hasElement 210 210 _ 0 210 rho σ [(2, (30 : Int)), (0, x1), (0, x2)] []
  refine ev_iload_n dX6_hasElement_0 rfl ?_
  obtain ⟨v1, hc2, h⟩ := bind_of h
  refine ev_invS_v (av := [(0, x1)]) (st := []) (v := (0, v1)) (τ := σ) dX6_hasElement_1 ml_X6_22 mt_X6_isShelf rfl ⟨Nat.le_of_ble_eq_true rfl, Nat.le_of_ble_eq_true rfl⟩ (Nat.le_of_ble_eq_true rfl) (c_X6_isShelf hc2) ?_
  refine ev_if_eq (tgt := 25) dX6_hasElement_4 rfl h (fun cb h => ?_) (fun cb h => ?_)
  · refine ev_iconst dX6_hasElement_25 (by decide) ?_
    obtain rfl := Option.some.inj h
    exact ev_zret dX6_hasElement_26 rfl (chk_pos (.inl rfl))
  refine ev_iload_n dX6_hasElement_7 rfl ?_
  refine ev_if_lt (tgt := 25) dX6_hasElement_8 rfl h (fun cb h => ?_) (fun cb h => ?_)
  · refine ev_iconst dX6_hasElement_25 (by decide) ?_
    obtain rfl := Option.some.inj h
    exact ev_zret dX6_hasElement_26 rfl (chk_pos (.inl rfl))
  refine ev_iload_n dX6_hasElement_11 rfl ?_
  refine ev_aload_n dX6_hasElement_12 rfl (by decide) ?_
  refine ev_getf (j := 1) (t := 2) (x := (32 : Int)) dX6_hasElement_13 cf_X6 wf_X6_15 sp30 (by decide) (by decide) rfl (by decide) (rp30_1 _) ?_
  refine ev_iload_n dX6_hasElement_16 rfl ?_
  refine ev_iald dX6_hasElement_17 sp32 (by decide) (by decide) h (fun h => ?_)
  refine ev_icmp_ge (tgt := 25) dX6_hasElement_18 rfl h (fun cb h => ?_) (fun cb h => ?_)
  · refine ev_iconst dX6_hasElement_25 (by decide) ?_
    obtain rfl := Option.some.inj h
    exact ev_zret dX6_hasElement_26 rfl (chk_pos (.inl rfl))
  refine ev_iconst dX6_hasElement_21 (by decide) ?_
  refine ev_goto (tgt := 26) dX6_hasElement_22 rfl ?_
  obtain rfl := Option.some.inj h
  exact ev_zret dX6_hasElement_26 rfl (chk_pos (.inr rfl))
set_option maxHeartbeats 4000000 in
set_option maxRecDepth 20000 in
theorem c_X6_hasElements {σ : Mem} {x1 x2 x3 : Int}  {q : Int} (h : f_X6_hasElements σ x1 x2 x3 = some q) : Ms yX6_hasElements M_X6_hasElements 210 210 [(2, (30 : Int)), (0, x1), (0, x2), (0, x3)] rho σ (some (0, q), rho, σ) := by
  refine Ms.of 0 (by decide +kernel) rfl (fun z => absurd z (by decide)) (fun _ _ _ => trivial) rfl rfl ?_
  unfold f_X6_hasElements at h
  show Ev M_X6_hasElements 210 210 _ 0 210 rho σ [(2, (30 : Int)), (0, x1), (0, x2), (0, x3)] []
  refine ev_iload_n dX6_hasElements_0 rfl ?_
  obtain ⟨v1, hc2, h⟩ := bind_of h
  refine ev_invS_v (av := [(0, x1)]) (st := []) (v := (0, v1)) (τ := σ) dX6_hasElements_1 ml_X6_22 mt_X6_isShelf rfl ⟨Nat.le_of_ble_eq_true rfl, Nat.le_of_ble_eq_true rfl⟩ (Nat.le_of_ble_eq_true rfl) (c_X6_isShelf hc2) ?_
  refine ev_if_eq (tgt := 41) dX6_hasElements_4 rfl h (fun cb h => ?_) (fun cb h => ?_)
  · refine ev_iconst dX6_hasElements_41 (by decide) ?_
    obtain rfl := Option.some.inj h
    exact ev_zret dX6_hasElements_42 rfl (chk_pos (.inl rfl))
  refine ev_iload_n dX6_hasElements_7 rfl ?_
  refine ev_if_lt (tgt := 41) dX6_hasElements_8 rfl h (fun cb h => ?_) (fun cb h => ?_)
  · refine ev_iconst dX6_hasElements_41 (by decide) ?_
    obtain rfl := Option.some.inj h
    exact ev_zret dX6_hasElements_42 rfl (chk_pos (.inl rfl))
  refine ev_iload_n dX6_hasElements_11 rfl ?_
  refine ev_if_lt (tgt := 41) dX6_hasElements_12 rfl h (fun cb h => ?_) (fun cb h => ?_)
  · refine ev_iconst dX6_hasElements_41 (by decide) ?_
    obtain rfl := Option.some.inj h
    exact ev_zret dX6_hasElements_42 rfl (chk_pos (.inl rfl))
  refine ev_iload_n dX6_hasElements_15 rfl ?_
  refine ev_aload_n dX6_hasElements_16 rfl (by decide) ?_
  refine ev_getf (j := 1) (t := 2) (x := (32 : Int)) dX6_hasElements_17 cf_X6 wf_X6_15 sp30 (by decide) (by decide) rfl (by decide) (rp30_1 _) ?_
  refine ev_iload_n dX6_hasElements_20 rfl ?_
  refine ev_iald dX6_hasElements_21 sp32 (by decide) (by decide) h (fun h => ?_)
  refine ev_icmp_gt (tgt := 41) dX6_hasElements_22 rfl h (fun cb h => ?_) (fun cb h => ?_)
  · refine ev_iconst dX6_hasElements_41 (by decide) ?_
    obtain rfl := Option.some.inj h
    exact ev_zret dX6_hasElements_42 rfl (chk_pos (.inl rfl))
  refine ev_iload_n dX6_hasElements_25 rfl ?_
  refine ev_aload_n dX6_hasElements_26 rfl (by decide) ?_
  refine ev_getf (j := 1) (t := 2) (x := (32 : Int)) dX6_hasElements_27 cf_X6 wf_X6_15 sp30 (by decide) (by decide) rfl (by decide) (rp30_1 _) ?_
  refine ev_iload_n dX6_hasElements_30 rfl ?_
  refine ev_iald dX6_hasElements_31 sp32 (by decide) (by decide) h (fun h => ?_)
  refine ev_iload_n dX6_hasElements_32 rfl ?_
  refine ev_isub dX6_hasElements_33 ?_
  refine ev_icmp_gt (tgt := 41) dX6_hasElements_34 rfl h (fun cb h => ?_) (fun cb h => ?_)
  · refine ev_iconst dX6_hasElements_41 (by decide) ?_
    obtain rfl := Option.some.inj h
    exact ev_zret dX6_hasElements_42 rfl (chk_pos (.inl rfl))
  refine ev_iconst dX6_hasElements_37 (by decide) ?_
  refine ev_goto (tgt := 42) dX6_hasElements_38 rfl ?_
  obtain rfl := Option.some.inj h
  exact ev_zret dX6_hasElements_42 rfl (chk_pos (.inr rfl))
set_option maxHeartbeats 4000000 in
set_option maxRecDepth 20000 in
theorem c_X6_elementAt {σ : Mem} {x1 x2 : Int}  {q : Int} (h : f_X6_elementAt σ x1 x2 = some q) : Ms yX6_elementAt M_X6_elementAt 210 210 [(2, (30 : Int)), (0, x1), (0, x2)] rho σ (some (1, q), rho, σ) := by
  refine Ms.of 0 (by decide +kernel) rfl (fun z => absurd z (by decide)) (fun _ _ _ => trivial) rfl rfl ?_
  unfold f_X6_elementAt at h
  show Ev M_X6_elementAt 210 210 _ 0 210 rho σ [(2, (30 : Int)), (0, x1), (0, x2)] []
  refine ev_aload_n dX6_elementAt_0 rfl (by decide) ?_
  refine ev_iload_n dX6_elementAt_1 rfl ?_
  refine ev_iload_n dX6_elementAt_2 rfl ?_
  obtain ⟨v1, hc2, h⟩ := bind_of h
  refine ev_invV_v (k := (30 : Int)) (av := [(0, x1), (0, x2)]) (st := []) (v := (0, v1)) (τ := σ) dX6_elementAt_3 ml_X6_30 mv_X6_hasElement (T := TX6) (ci := 5) rfl sp30 (by decide) (by decide) rfl ⟨Nat.le_of_ble_eq_true rfl, Nat.le_of_ble_eq_true rfl⟩ (Nat.le_of_ble_eq_true rfl) (c_X6_hasElement hc2) ?_
  refine ev_if_eq (tgt := 23) dX6_elementAt_6 rfl h (fun cb h => ?_) (fun cb h => ?_)
  · refine ev_lconst (x := (0 : Int)) dX6_elementAt_23 (by decide) (by decide) ?_
    obtain rfl := Option.some.inj h
    exact ev_lret dX6_elementAt_24 rfl rfl
  refine ev_aload_n dX6_elementAt_9 rfl (by decide) ?_
  refine ev_getf (j := 2) (t := 2) (x := (33 : Int)) dX6_elementAt_10 cf_X6 wf_X6_18 sp30 (by decide) (by decide) rfl (by decide) (rp30_2 _) ?_
  refine ev_iload_n dX6_elementAt_13 rfl ?_
  refine ev_bipush dX6_elementAt_14 (by decide) (by decide) ?_
  refine ev_imul dX6_elementAt_16 ?_
  refine ev_iload_n dX6_elementAt_17 rfl ?_
  refine ev_iadd dX6_elementAt_18 ?_
  refine ev_lald dX6_elementAt_19 sp33 (by decide) (by decide) h (fun h => ?_)
  refine ev_goto (tgt := 24) dX6_elementAt_20 rfl ?_
  obtain rfl := Option.some.inj h
  exact ev_lret dX6_elementAt_24 rfl rfl
set_option maxHeartbeats 4000000 in
set_option maxRecDepth 20000 in
theorem c_X6_lowest {σ : Mem} {x0 x1 : Int}  {q : Int} (h : f_X6_lowest σ x0 x1 = some q) : Ms yX6_lowest M_X6_lowest 210 210 [(0, x0), (1, x1)] rho σ (some (1, q), rho, σ) := by
  refine Ms.of 0 (by decide +kernel) rfl (fun z => absurd z (by decide)) (fun _ _ _ => trivial) rfl rfl ?_
  unfold f_X6_lowest at h
  show Ev M_X6_lowest 210 210 _ 0 210 rho σ [(0, x0), (1, x1), (9, 0)] []
  refine ev_iload_n dX6_lowest_0 rfl ?_
  refine ev_by h (fun cs h => ?_) (fun cs0 h => ?_)
  · refine ev_tswIn (off := 31) (tgt := 32) dX6_lowest_1 (by rw [cs]; decide) (by rw [cs]; decide) (by rw [cs]; rfl) rfl ?_
    refine ev_lload_n dX6_lowest_32 rfl ?_
    refine ev_l2i dX6_lowest_33 ?_
    refine ev_i2b dX6_lowest_34 ?_
    refine ev_i2lk dX6_lowest_35 ?_
    obtain rfl := Option.some.inj h
    exact ev_lret dX6_lowest_36 rfl rfl
  refine ev_by h (fun cs h => ?_) (fun cs1 h => ?_)
  · refine ev_tswIn (off := 36) (tgt := 37) dX6_lowest_1 (by rw [cs]; decide) (by rw [cs]; decide) (by rw [cs]; rfl) rfl ?_
    refine ev_lload_n dX6_lowest_37 rfl ?_
    refine ev_l2i dX6_lowest_38 ?_
    refine ev_i2s dX6_lowest_39 ?_
    refine ev_i2lk dX6_lowest_40 ?_
    obtain rfl := Option.some.inj h
    exact ev_lret dX6_lowest_41 rfl rfl
  refine ev_by h (fun cs h => ?_) (fun cs2 h => ?_)
  · refine ev_tswIn (off := 41) (tgt := 42) dX6_lowest_1 (by rw [cs]; decide) (by rw [cs]; decide) (by rw [cs]; rfl) rfl ?_
    refine ev_lload_n dX6_lowest_42 rfl ?_
    refine ev_l2i dX6_lowest_43 ?_
    refine ev_i2lk dX6_lowest_44 ?_
    obtain rfl := Option.some.inj h
    exact ev_lret dX6_lowest_45 rfl rfl
  refine ev_by h (fun cs h => ?_) (fun cs3 h => ?_)
  · refine ev_tswIn (off := 45) (tgt := 46) dX6_lowest_1 (by rw [cs]; decide) (by rw [cs]; decide) (by rw [cs]; rfl) rfl ?_
    refine ev_lload_n dX6_lowest_46 rfl ?_
    obtain rfl := Option.some.inj h
    exact ev_lret dX6_lowest_47 rfl rfl
  refine ev_tswOut (tgt := 48) dX6_lowest_1 (by omega) rfl ?_
  refine ev_lload_n dX6_lowest_48 rfl ?_
  refine ev_lconst (x := (0 : Int)) dX6_lowest_49 (by decide) (by decide) ?_
  refine ev_lc_eq (tgt := 58) dX6_lowest_50 dX6_lowest_51 rfl h (fun cb h => ?_) (fun cb h => ?_)
  · refine ev_lconst (x := (0 : Int)) dX6_lowest_58 (by decide) (by decide) ?_
    obtain rfl := Option.some.inj h
    exact ev_lret dX6_lowest_59 rfl rfl
  refine ev_lconst (x := (1 : Int)) dX6_lowest_54 (by decide) (by decide) ?_
  refine ev_goto (tgt := 59) dX6_lowest_55 rfl ?_
  obtain rfl := Option.some.inj h
  exact ev_lret dX6_lowest_59 rfl rfl
set_option maxHeartbeats 4000000 in
set_option maxRecDepth 20000 in
theorem c_X6_putElement {σ : Mem} {x1 x2 x3 : Int}  {q : Mem} (h : f_X6_putElement σ x1 x2 x3 = some q) : Ms yX6_putElement M_X6_putElement 210 210 [(2, (30 : Int)), (0, x1), (0, x2), (1, x3)] rho σ (none, rho, q) := by
  refine Ms.of 0 (by decide +kernel) rfl (fun z => absurd z (by decide)) (fun _ _ _ => trivial) rfl rfl ?_
  unfold f_X6_putElement at h
  show Ev M_X6_putElement 210 210 _ 0 210 rho σ [(2, (30 : Int)), (0, x1), (0, x2), (1, x3), (9, 0)] []
  refine ev_aload_n dX6_putElement_0 rfl (by decide) ?_
  refine ev_iload_n dX6_putElement_1 rfl ?_
  refine ev_iload_n dX6_putElement_2 rfl ?_
  obtain ⟨v1, hc2, h⟩ := bind_of h
  refine ev_invV_v (k := (30 : Int)) (av := [(0, x1), (0, x2)]) (st := []) (v := (0, v1)) (τ := σ) dX6_putElement_3 ml_X6_30 mv_X6_hasElement (T := TX6) (ci := 5) rfl sp30 (by decide) (by decide) rfl ⟨Nat.le_of_ble_eq_true rfl, Nat.le_of_ble_eq_true rfl⟩ (Nat.le_of_ble_eq_true rfl) (c_X6_hasElement hc2) ?_
  refine ev_if_eq (tgt := 30) dX6_putElement_6 rfl h (fun cb h => ?_) (fun cb h => ?_)
  · obtain rfl := Option.some.inj h
    exact ev_vret dX6_putElement_30 rfl rfl
  refine ev_aload_n dX6_putElement_9 rfl (by decide) ?_
  refine ev_getf (j := 2) (t := 2) (x := (33 : Int)) dX6_putElement_10 cf_X6 wf_X6_18 sp30 (by decide) (by decide) rfl (by decide) (rp30_2 _) ?_
  refine ev_iload_n dX6_putElement_13 rfl ?_
  refine ev_bipush dX6_putElement_14 (by decide) (by decide) ?_
  refine ev_imul dX6_putElement_16 ?_
  refine ev_iload_n dX6_putElement_17 rfl ?_
  refine ev_iadd dX6_putElement_18 ?_
  refine ev_aload_n dX6_putElement_19 rfl (by decide) ?_
  refine ev_getf (j := 0) (t := 2) (x := (31 : Int)) dX6_putElement_20 cf_X6 wf_X6_9 sp30 (by decide) (by decide) rfl (by decide) (rp30_0 _) ?_
  refine ev_iload_n dX6_putElement_23 rfl ?_
  refine ev_iald dX6_putElement_24 sp31 (by decide) (by decide) h (fun h => ?_)
  show Ev _ _ _ _ 25 _ _ _ _ _
  refine ev_lload_n dX6_putElement_25 rfl ?_
  obtain ⟨v3, hc4, h⟩ := bind_of h
  refine ev_invS_v (av := [(0, (σ (31 : Int) x1)), (1, x3)]) (st := [(0, (jadd (jmul x1 (40 : Int)) x2)), (2, (33 : Int))]) (v := (1, v3)) (τ := σ) dX6_putElement_26 ml_X6_34 mt_X6_lowest rfl ⟨Nat.le_of_ble_eq_true rfl, Nat.le_of_ble_eq_true rfl⟩ (Nat.le_of_ble_eq_true rfl) (c_X6_lowest hc4) ?_
  refine ev_lastG dX6_putElement_29 sp33 (by decide) (by decide) h (fun σ5 h => ?_)
  obtain rfl := Option.some.inj h
  exact ev_vret dX6_putElement_30 rfl rfl
set_option maxHeartbeats 4000000 in
set_option maxRecDepth 20000 in
theorem c_X6_carry {σ : Mem} {x1 x2 x3 x4 x5 : Int}  {q : Mem} (h : f_X6_carry σ x1 x2 x3 x4 x5 = some q) : Ms yX6_carry M_X6_carry 210 210 [(2, (30 : Int)), (0, x1), (0, x2), (0, x3), (0, x4), (0, x5)] rho σ (none, rho, q) := by
  refine Ms.of 0 (by decide +kernel) rfl (fun z => absurd z (by decide)) (fun _ _ _ => trivial) rfl rfl ?_
  unfold f_X6_carry at h
  show Ev M_X6_carry 210 210 _ 0 210 rho σ [(2, (30 : Int)), (0, x1), (0, x2), (0, x3), (0, x4), (0, x5)] []
  refine ev_aload_n dX6_carry_0 rfl (by decide) ?_
  refine ev_getf (j := 2) (t := 2) (x := (33 : Int)) dX6_carry_1 cf_X6 wf_X6_18 sp30 (by decide) (by decide) rfl (by decide) (rp30_2 _) ?_
  refine ev_iload_n dX6_carry_4 rfl ?_
  refine ev_bipush dX6_carry_5 (by decide) (by decide) ?_
  refine ev_imul dX6_carry_7 ?_
  refine ev_iload_n dX6_carry_8 rfl ?_
  refine ev_iadd dX6_carry_9 ?_
  refine ev_aload_n dX6_carry_10 rfl (by decide) ?_
  refine ev_getf (j := 2) (t := 2) (x := (33 : Int)) dX6_carry_11 cf_X6 wf_X6_18 sp30 (by decide) (by decide) rfl (by decide) (rp30_2 _) ?_
  refine ev_iload_n dX6_carry_14 rfl ?_
  refine ev_bipush dX6_carry_15 (by decide) (by decide) ?_
  show Ev _ _ _ _ 17 _ _ _ _ _
  refine ev_imul dX6_carry_17 ?_
  refine ev_iload dX6_carry_18 rfl ?_
  refine ev_iadd dX6_carry_20 ?_
  refine ev_iload dX6_carry_21 rfl ?_
  refine ev_copylG dX6_carry_23 wa_X6_38 wa_words sp33 (by decide) (by decide) sp33 (by decide) (by decide) (by decide) (Nat.le_of_ble_eq_true rfl) h (fun σ1 h => ?_)
  obtain rfl := Option.some.inj h
  exact ev_vret dX6_carry_26 rfl rfl
def K_X6_dropCandsFrom_2 (x1 : Int) (r : Option V × Mem × Mem) : (Int × Mem) ⊕ ((Mem)) → Prop := Sum.elim (fun a => Ev M_X6_dropCandsFrom 210 210 r 2 210 rho a.2 [(2, (30 : Int)), (0, x1), (0, a.1)] []) (fun e => Ev M_X6_dropCandsFrom 210 210 r 30 210 rho e [(9, 0), (9, 0), (9, 0)] [])
set_option maxHeartbeats 4000000 in
set_option maxRecDepth 20000 in
theorem e_X6_dropCandsFrom_24 (σ : Mem) (x1 x2 : Int)  {q : ((Int × Mem) ⊕ ((Mem)))} (h : f_X6_dropCandsFrom_24 σ x1 x2 = some q) {r : Option V × Mem × Mem} (K : K_X6_dropCandsFrom_2 x1 r q) : Ev M_X6_dropCandsFrom 210 210 r 24 210 rho σ [(2, (30 : Int)), (0, x1), (0, x2)] [] := by
  unfold f_X6_dropCandsFrom_24 at h
  refine ev_iincG dX6_dropCandsFrom_24 rfl h rfl (fun v4 h => ?_)
  show Ev _ _ _ _ 27 _ _ _ [(2, (30 : Int)), (0, x1), (0, v4)] _
  refine ev_goto (tgt := 2) dX6_dropCandsFrom_27 rfl ?_
  obtain rfl := Option.some.inj h
  exact ev_sub (L2 := [(2, (30 : Int)), (0, x1), (0, v4)]) K ⟨.inr rfl, .inr rfl, .inr rfl, trivial⟩
set_option maxHeartbeats 4000000 in
set_option maxRecDepth 20000 in
theorem b_X6_dropCandsFrom_2 (x1 : Int)  {r : Option V × Mem × Mem} : ∀ a x, f_X6_dropCandsFrom_2B x1 a = some x → K_X6_dropCandsFrom_2 x1 r x → K_X6_dropCandsFrom_2 x1 r (.inl a) := by
  intro a x h K
  obtain ⟨x2, σ⟩ := a
  have h : f_X6_dropCandsFrom_2C x1 x2 σ = some x := h
  unfold f_X6_dropCandsFrom_2C at h
  show Ev M_X6_dropCandsFrom 210 210 r 2 210 rho σ [(2, (30 : Int)), (0, x1), (0, x2)] []
  refine ev_iload_n dX6_dropCandsFrom_2 rfl ?_
  refine ev_bipush dX6_dropCandsFrom_3 (by decide) (by decide) ?_
  refine ev_icmp_ge (tgt := 30) dX6_dropCandsFrom_5 rfl h (fun cb h => ?_) (fun cb h => ?_)
  · obtain rfl := Option.some.inj h
    exact ev_sub (L2 := [(9, 0), (9, 0), (9, 0)]) K ⟨.inl rfl, .inl rfl, .inl rfl, trivial⟩
  refine ev_aload_n dX6_dropCandsFrom_8 rfl (by decide) ?_
  refine ev_iload_n dX6_dropCandsFrom_9 rfl ?_
  obtain ⟨v1, hc2, h⟩ := bind_of h
  refine ev_invV_v (k := (30 : Int)) (av := [(0, x2)]) (st := []) (v := (0, v1)) (τ := σ) dX6_dropCandsFrom_10 ml_X6_44 mv_X6_candOn (T := TX6) (ci := 5) rfl sp30 (by decide) (by decide) rfl ⟨Nat.le_of_ble_eq_true rfl, Nat.le_of_ble_eq_true rfl⟩ (Nat.le_of_ble_eq_true rfl) (c_X6_candOn hc2) ?_
  refine ev_iload_n dX6_dropCandsFrom_13 rfl ?_
  refine ev_icmp_lt (tgt := 24) dX6_dropCandsFrom_14 rfl h (fun cb h => ?_) (fun cb h => ?_)
  · exact ev_sub (L2 := [(2, (30 : Int)), (0, x1), (0, x2)]) (e_X6_dropCandsFrom_24 σ x1 x2 h K) ⟨.inr rfl, .inr rfl, .inr rfl, trivial⟩
  refine ev_aload_n dX6_dropCandsFrom_17 rfl (by decide) ?_
  refine ev_getf (j := 0) (t := 2) (x := (31 : Int)) dX6_dropCandsFrom_18 cf_X6 wf_X6_9 sp30 (by decide) (by decide) rfl (by decide) (rp30_0 _) ?_
  refine ev_iload_n dX6_dropCandsFrom_21 rfl ?_
  refine ev_iconst dX6_dropCandsFrom_22 (by decide) ?_
  refine ev_iastG dX6_dropCandsFrom_23 sp31 (by decide) (by decide) h (fun σ3 h => ?_)
  exact ev_sub (L2 := [(2, (30 : Int)), (0, x1), (0, x2)]) (e_X6_dropCandsFrom_24 σ3 x1 x2 h K) ⟨.inr rfl, .inr rfl, .inr rfl, trivial⟩
set_option maxHeartbeats 4000000 in
set_option maxRecDepth 20000 in
theorem e_X6_dropCandsFrom_2 (σ : Mem) (x1 x2 : Int)  {q : Mem} (h : f_X6_dropCandsFrom_2 σ x1 x2 = some q) : Ev M_X6_dropCandsFrom 210 210 (none, rho, q) 2 210 rho σ [(2, (30 : Int)), (0, x1), (0, x2)] [] := by
  unfold f_X6_dropCandsFrom_2 at h
  obtain ⟨e, hl, h⟩ := bind_of h
  refine loop_ev (K := K_X6_dropCandsFrom_2 x1 (none, rho, q)) (b_X6_dropCandsFrom_2 x1) FU (x2, σ) e hl ?_
  show Ev M_X6_dropCandsFrom 210 210 _ 30 210 rho e [(9, 0), (9, 0), (9, 0)] []
  replace h : some e = some q := h
  obtain rfl := Option.some.inj h
  exact ev_vret dX6_dropCandsFrom_30 rfl rfl
set_option maxHeartbeats 4000000 in
set_option maxRecDepth 20000 in
theorem c_X6_dropCandsFrom {σ : Mem} {x1 : Int}  {q : Mem} (h : f_X6_dropCandsFrom σ x1 = some q) : Ms yX6_dropCandsFrom M_X6_dropCandsFrom 210 210 [(2, (30 : Int)), (0, x1)] rho σ (none, rho, q) := by
  refine Ms.of 1 (by decide +kernel) rfl (fun z => absurd z (by decide)) (fun _ _ _ => trivial) rfl rfl ?_
  unfold f_X6_dropCandsFrom at h
  show Ev M_X6_dropCandsFrom 210 210 _ 0 210 rho σ [(2, (30 : Int)), (0, x1), (9, 0)] []
  refine ev_iconst dX6_dropCandsFrom_0 (by decide) ?_
  refine ev_istore_n dX6_dropCandsFrom_1 rfl (by decide) ?_
  show Ev _ _ _ _ 2 _ _ _ [(2, (30 : Int)), (0, x1), (0, (0 : Int))] _
  exact ev_sub (L2 := [(2, (30 : Int)), (0, x1), (0, (0 : Int))]) (e_X6_dropCandsFrom_2 σ x1 (0 : Int) h) ⟨.inr rfl, .inr rfl, .inr rfl, trivial⟩
def K_X6_filled_4 (σ : Mem) (r : Option V × Mem × Mem) : (Int × Int) ⊕ ((Int)) → Prop := Sum.elim (fun a => Ev M_X6_filled 210 210 r 4 210 rho σ [(2, (30 : Int)), (0, a.1), (0, a.2)] []) (fun e => Ev M_X6_filled 210 210 r 29 210 rho σ [(9, 0), (0, e), (9, 0)] [])
set_option maxHeartbeats 4000000 in
set_option maxRecDepth 20000 in
theorem e_X6_filled_23 (σ : Mem) (x1 x2 : Int)  {q : ((Int × Int) ⊕ ((Int)))} (h : f_X6_filled_23 σ x1 x2 = some q) {r : Option V × Mem × Mem} (K : K_X6_filled_4 σ r q) : Ev M_X6_filled 210 210 r 23 210 rho σ [(2, (30 : Int)), (0, x1), (0, x2)] [] := by
  unfold f_X6_filled_23 at h
  refine ev_iincG dX6_filled_23 rfl h rfl (fun v2 h => ?_)
  show Ev _ _ _ _ 26 _ _ _ [(2, (30 : Int)), (0, x1), (0, v2)] _
  refine ev_goto (tgt := 4) dX6_filled_26 rfl ?_
  obtain rfl := Option.some.inj h
  exact ev_sub (L2 := [(2, (30 : Int)), (0, x1), (0, v2)]) K ⟨.inr rfl, .inr rfl, .inr rfl, trivial⟩
set_option maxHeartbeats 4000000 in
set_option maxRecDepth 20000 in
theorem b_X6_filled_4 (σ : Mem)  {r : Option V × Mem × Mem} : ∀ a x, f_X6_filled_4B σ a = some x → K_X6_filled_4 σ r x → K_X6_filled_4 σ r (.inl a) := by
  intro a x h K
  obtain ⟨x1, x2⟩ := a
  have h : f_X6_filled_4C σ x1 x2 = some x := h
  unfold f_X6_filled_4C at h
  show Ev M_X6_filled 210 210 r 4 210 rho σ [(2, (30 : Int)), (0, x1), (0, x2)] []
  refine ev_iload_n dX6_filled_4 rfl ?_
  refine ev_bipush dX6_filled_5 (by decide) (by decide) ?_
  refine ev_icmp_ge (tgt := 29) dX6_filled_7 rfl h (fun cb h => ?_) (fun cb h => ?_)
  · obtain rfl := Option.some.inj h
    exact ev_sub (L2 := [(9, 0), (0, x1), (9, 0)]) K ⟨.inl rfl, .inr rfl, .inl rfl, trivial⟩
  refine ev_aload_n dX6_filled_10 rfl (by decide) ?_
  refine ev_getf (j := 0) (t := 2) (x := (31 : Int)) dX6_filled_11 cf_X6 wf_X6_9 sp30 (by decide) (by decide) rfl (by decide) (rp30_0 _) ?_
  refine ev_iload_n dX6_filled_14 rfl ?_
  refine ev_iald dX6_filled_15 sp31 (by decide) (by decide) h (fun h => ?_)
  refine ev_iconst dX6_filled_16 (by decide) ?_
  refine ev_icmp_eq (tgt := 23) dX6_filled_17 rfl h (fun cb h => ?_) (fun cb h => ?_)
  · exact ev_sub (L2 := [(2, (30 : Int)), (0, x1), (0, x2)]) (e_X6_filled_23 σ x1 x2 h K) ⟨.inr rfl, .inr rfl, .inr rfl, trivial⟩
  refine ev_iincG dX6_filled_20 rfl h rfl (fun v1 h => ?_)
  show Ev _ _ _ _ 23 _ _ _ [(2, (30 : Int)), (0, v1), (0, x2)] _
  exact ev_sub (L2 := [(2, (30 : Int)), (0, v1), (0, x2)]) (e_X6_filled_23 σ v1 x2 h K) ⟨.inr rfl, .inr rfl, .inr rfl, trivial⟩
set_option maxHeartbeats 4000000 in
set_option maxRecDepth 20000 in
theorem e_X6_filled_4 (σ : Mem) (x1 x2 : Int)  {q : Int} (h : f_X6_filled_4 σ x1 x2 = some q) : Ev M_X6_filled 210 210 (some (0, q), rho, σ) 4 210 rho σ [(2, (30 : Int)), (0, x1), (0, x2)] [] := by
  unfold f_X6_filled_4 at h
  obtain ⟨e, hl, h⟩ := bind_of h
  refine loop_ev (K := K_X6_filled_4 σ (some (0, q), rho, σ)) (b_X6_filled_4 σ) FU (x1, x2) e hl ?_
  show Ev M_X6_filled 210 210 _ 29 210 rho σ [(9, 0), (0, e), (9, 0)] []
  replace h : some e = some q := h
  refine ev_iload_n dX6_filled_29 rfl ?_
  obtain rfl := Option.some.inj h
  exact ev_iret dX6_filled_30 rfl rfl
set_option maxHeartbeats 4000000 in
set_option maxRecDepth 20000 in
theorem c_X6_filled {σ : Mem}  {q : Int} (h : f_X6_filled σ  = some q) : Ms yX6_filled M_X6_filled 210 210 [(2, (30 : Int))] rho σ (some (0, q), rho, σ) := by
  refine Ms.of 2 (by decide +kernel) rfl (fun z => absurd z (by decide)) (fun _ _ _ => trivial) rfl rfl ?_
  unfold f_X6_filled at h
  show Ev M_X6_filled 210 210 _ 0 210 rho σ [(2, (30 : Int)), (9, 0), (9, 0)] []
  refine ev_iconst dX6_filled_0 (by decide) ?_
  refine ev_istore_n dX6_filled_1 rfl (by decide) ?_
  show Ev _ _ _ _ 2 _ _ _ [(2, (30 : Int)), (0, (0 : Int)), (9, 0)] _
  refine ev_iconst dX6_filled_2 (by decide) ?_
  refine ev_istore_n dX6_filled_3 rfl (by decide) ?_
  show Ev _ _ _ _ 4 _ _ _ [(2, (30 : Int)), (0, (0 : Int)), (0, (0 : Int))] _
  exact ev_sub (L2 := [(2, (30 : Int)), (0, (0 : Int)), (0, (0 : Int))]) (e_X6_filled_4 σ (0 : Int) (0 : Int) h) ⟨.inr rfl, .inr rfl, .inr rfl, trivial⟩
set_option maxHeartbeats 4000000 in
set_option maxRecDepth 20000 in
theorem c_X7_isFull {σ : Mem}  {q : Int} (h : f_X7_isFull σ  = some q) : Ms yX7_isFull M_X7_isFull 210 210 [(2, (28 : Int))] rho σ (some (0, q), rho, σ) := by
  refine Ms.of 0 (by decide +kernel) rfl (fun z => absurd z (by decide)) (fun _ _ _ => trivial) rfl rfl ?_
  unfold f_X7_isFull at h
  show Ev M_X7_isFull 210 210 _ 0 210 rho σ [(2, (28 : Int))] []
  refine ev_aload_n dX7_isFull_0 rfl (by decide) ?_
  refine ev_getf (j := 1) (t := 0) (x := (σ (28 : Int) 1)) dX7_isFull_1 cf_X7 wf_X7_15 sp28 (by decide) (by decide) rfl (by decide) rfl ?_
  refine ev_sipush dX7_isFull_4 (by decide) (by decide) ?_
  refine ev_icmp_lt (tgt := 14) dX7_isFull_7 rfl h (fun cb h => ?_) (fun cb h => ?_)
  · refine ev_iconst dX7_isFull_14 (by decide) ?_
    obtain rfl := Option.some.inj h
    exact ev_zret dX7_isFull_15 rfl (chk_pos (.inl rfl))
  refine ev_iconst dX7_isFull_10 (by decide) ?_
  refine ev_goto (tgt := 15) dX7_isFull_11 rfl ?_
  obtain rfl := Option.some.inj h
  exact ev_zret dX7_isFull_15 rfl (chk_pos (.inr rfl))
set_option maxHeartbeats 4000000 in
set_option maxRecDepth 20000 in
theorem c_X7_size {σ : Mem}  {q : Int} (h : f_X7_size σ  = some q) : Ms yX7_size M_X7_size 210 210 [(2, (28 : Int))] rho σ (some (0, q), rho, σ) := by
  refine Ms.of 0 (by decide +kernel) rfl (fun z => absurd z (by decide)) (fun _ _ _ => trivial) rfl rfl ?_
  unfold f_X7_size at h
  show Ev M_X7_size 210 210 _ 0 210 rho σ [(2, (28 : Int))] []
  refine ev_aload_n dX7_size_0 rfl (by decide) ?_
  refine ev_getf (j := 1) (t := 0) (x := (σ (28 : Int) 1)) dX7_size_1 cf_X7 wf_X7_15 sp28 (by decide) (by decide) rfl (by decide) rfl ?_
  obtain rfl := Option.some.inj h
  exact ev_iret dX7_size_4 rfl rfl
set_option maxHeartbeats 4000000 in
set_option maxRecDepth 20000 in
theorem c_X7_fault {σ : Mem}  {q : Int} (h : f_X7_fault σ  = some q) : Ms yX7_fault M_X7_fault 210 210 [(2, (28 : Int))] rho σ (some (0, q), rho, σ) := by
  refine Ms.of 0 (by decide +kernel) rfl (fun z => absurd z (by decide)) (fun _ _ _ => trivial) rfl rfl ?_
  unfold f_X7_fault at h
  show Ev M_X7_fault 210 210 _ 0 210 rho σ [(2, (28 : Int))] []
  refine ev_aload_n dX7_fault_0 rfl (by decide) ?_
  refine ev_getf (j := 4) (t := 0) (x := (σ (28 : Int) 4)) dX7_fault_1 cf_X7 wf_X7_19 sp28 (by decide) (by decide) rfl (by decide) rfl ?_
  obtain rfl := Option.some.inj h
  exact ev_iret dX7_fault_4 rfl rfl
set_option maxHeartbeats 4000000 in
set_option maxRecDepth 20000 in
theorem e_X7_append_30 (σ : Mem)  {q : (Int × Mem)} (h : f_X7_append_30 σ  = some q) : Ev M_X7_append 210 210 (some (0, q.1), rho, q.2) 30 210 rho σ [(2, (28 : Int)), (9, 0)] [] := by
  unfold f_X7_append_30 at h
  refine ev_aload_n dX7_append_30 rfl (by decide) ?_
  refine ev_getf (j := 1) (t := 0) (x := (σ (28 : Int) 1)) dX7_append_31 cf_X7 wf_X7_15 sp28 (by decide) (by decide) rfl (by decide) rfl ?_
  obtain rfl := Option.some.inj h
  dsimp only
  exact ev_iret dX7_append_34 rfl rfl
set_option maxHeartbeats 4000000 in
set_option maxRecDepth 20000 in
theorem c_X7_append {σ : Mem} {x1 : Int}  {q : (Int × Mem)} (h : f_X7_append σ x1 = some q) : Ms yX7_append M_X7_append 210 210 [(2, (28 : Int)), (0, x1)] rho σ (some (0, q.1), rho, q.2) := by
  refine Ms.of 0 (by decide +kernel) rfl (fun z => absurd z (by decide)) (fun _ _ _ => trivial) rfl rfl ?_
  unfold f_X7_append at h
  show Ev M_X7_append 210 210 _ 0 210 rho σ [(2, (28 : Int)), (0, x1)] []
  refine ev_aload_n dX7_append_0 rfl (by decide) ?_
  refine ev_getf (j := 1) (t := 0) (x := (σ (28 : Int) 1)) dX7_append_1 cf_X7 wf_X7_15 sp28 (by decide) (by decide) rfl (by decide) rfl ?_
  refine ev_sipush dX7_append_4 (by decide) (by decide) ?_
  refine ev_icmp_ge (tgt := 30) dX7_append_7 rfl h (fun cb h => ?_) (fun cb h => ?_)
  · exact ev_sub (L2 := [(2, (28 : Int)), (9, 0)]) (e_X7_append_30 σ h) ⟨.inr rfl, .inl rfl, trivial⟩
  refine ev_aload_n dX7_append_10 rfl (by decide) ?_
  refine ev_getf (j := 0) (t := 2) (x := (29 : Int)) dX7_append_11 cf_X7 wf_X7_11 sp28 (by decide) (by decide) rfl (by decide) (rp28_0 _) ?_
  refine ev_aload_n dX7_append_14 rfl (by decide) ?_
  refine ev_getf (j := 1) (t := 0) (x := (σ (28 : Int) 1)) dX7_append_15 cf_X7 wf_X7_15 sp28 (by decide) (by decide) rfl (by decide) rfl ?_
  refine ev_iload_n dX7_append_18 rfl ?_
  refine ev_iastG dX7_append_19 sp29 (by decide) (by decide) h (fun σ1 h => ?_)
  refine ev_aload_n dX7_append_20 rfl (by decide) ?_
  refine ev_dup dX7_append_21 (show (2 : Nat) ≠ 1 by decide) ?_
  refine ev_getf (j := 1) (t := 0) (x := (σ1 (28 : Int) 1)) dX7_append_22 cf_X7 wf_X7_15 sp28 (by decide) (by decide) rfl (by decide) rfl ?_
  refine ev_iconst dX7_append_25 (by decide) ?_
  refine ev_iadd dX7_append_26 ?_
  show Ev _ _ _ _ 27 _ _ _ _ _
  refine ev_putfG (j := 1) (t := 0) dX7_append_27 cf_X7 wf_X7_15 sp28 (by decide) (by decide) rfl (by decide) (by decide) rfl (fun z => absurd z (by decide +kernel)) h (fun σ2 h => ?_)
  exact ev_sub (L2 := [(2, (28 : Int)), (9, 0)]) (e_X7_append_30 σ2 h) ⟨.inr rfl, .inl rfl, trivial⟩
set_option maxHeartbeats 4000000 in
set_option maxRecDepth 20000 in
theorem c_X7_clear {σ : Mem}  {q : (Int × Mem)} (h : f_X7_clear σ  = some q) : Ms yX7_clear M_X7_clear 210 210 [(2, (28 : Int))] rho σ (some (0, q.1), rho, q.2) := by
  refine Ms.of 1 (by decide +kernel) rfl (fun z => absurd z (by decide)) (fun _ _ _ => trivial) rfl rfl ?_
  unfold f_X7_clear at h
  show Ev M_X7_clear 210 210 _ 0 210 rho σ [(2, (28 : Int)), (9, 0)] []
  refine ev_aload_n dX7_clear_0 rfl (by decide) ?_
  refine ev_getf (j := 1) (t := 0) (x := (σ (28 : Int) 1)) dX7_clear_1 cf_X7 wf_X7_15 sp28 (by decide) (by decide) rfl (by decide) rfl ?_
  refine ev_istore_nG dX7_clear_4 h rfl (by decide) (fun v1 h => ?_)
  show Ev _ _ _ _ 5 _ _ _ [(2, (28 : Int)), (0, v1)] _
  refine ev_aload_n dX7_clear_5 rfl (by decide) ?_
  refine ev_iconst dX7_clear_6 (by decide) ?_
  refine ev_putfG (j := 1) (t := 0) dX7_clear_7 cf_X7 wf_X7_15 sp28 (by decide) (by decide) rfl (by decide) (by decide) rfl (fun z => absurd z (by decide +kernel)) h (fun σ2 h => ?_)
  refine ev_iload_n dX7_clear_10 rfl ?_
  obtain rfl := Option.some.inj h
  dsimp only
  exact ev_iret dX7_clear_11 rfl rfl
set_option maxHeartbeats 4000000 in
set_option maxRecDepth 20000 in
theorem c_X7_byteAt {σ : Mem} {x1 : Int}  {q : Int} (h : f_X7_byteAt σ x1 = some q) : Ms yX7_byteAt M_X7_byteAt 210 210 [(2, (28 : Int)), (0, x1)] rho σ (some (0, q), rho, σ) := by
  refine Ms.of 0 (by decide +kernel) rfl (fun z => absurd z (by decide)) (fun _ _ _ => trivial) rfl rfl ?_
  unfold f_X7_byteAt at h
  show Ev M_X7_byteAt 210 210 _ 0 210 rho σ [(2, (28 : Int)), (0, x1)] []
  refine ev_iload_n dX7_byteAt_0 rfl ?_
  refine ev_if_lt (tgt := 28) dX7_byteAt_1 rfl h (fun cb h => ?_) (fun cb h => ?_)
  · refine ev_iconst dX7_byteAt_28 (by decide) ?_
    obtain rfl := Option.some.inj h
    exact ev_iret dX7_byteAt_29 rfl rfl
  refine ev_iload_n dX7_byteAt_4 rfl ?_
  refine ev_aload_n dX7_byteAt_5 rfl (by decide) ?_
  refine ev_getf (j := 1) (t := 0) (x := (σ (28 : Int) 1)) dX7_byteAt_6 cf_X7 wf_X7_15 sp28 (by decide) (by decide) rfl (by decide) rfl ?_
  refine ev_icmp_ge (tgt := 28) dX7_byteAt_9 rfl h (fun cb h => ?_) (fun cb h => ?_)
  · refine ev_iconst dX7_byteAt_28 (by decide) ?_
    obtain rfl := Option.some.inj h
    exact ev_iret dX7_byteAt_29 rfl rfl
  refine ev_iload_n dX7_byteAt_12 rfl ?_
  refine ev_sipush dX7_byteAt_13 (by decide) (by decide) ?_
  refine ev_icmp_ge (tgt := 28) dX7_byteAt_16 rfl h (fun cb h => ?_) (fun cb h => ?_)
  · refine ev_iconst dX7_byteAt_28 (by decide) ?_
    obtain rfl := Option.some.inj h
    exact ev_iret dX7_byteAt_29 rfl rfl
  refine ev_aload_n dX7_byteAt_19 rfl (by decide) ?_
  refine ev_getf (j := 0) (t := 2) (x := (29 : Int)) dX7_byteAt_20 cf_X7 wf_X7_11 sp28 (by decide) (by decide) rfl (by decide) (rp28_0 _) ?_
  refine ev_iload_n dX7_byteAt_23 rfl ?_
  refine ev_iald dX7_byteAt_24 sp29 (by decide) (by decide) h (fun h => ?_)
  refine ev_goto (tgt := 29) dX7_byteAt_25 rfl ?_
  obtain rfl := Option.some.inj h
  exact ev_iret dX7_byteAt_29 rfl rfl
def K_X7_skipBlanks_2 (r : Option V × Mem × Mem) : (Int × Mem) ⊕ ((Mem)) → Prop := Sum.elim (fun a => Ev M_X7_skipBlanks 210 210 r 2 210 rho a.2 [(2, (28 : Int)), (0, a.1)] []) (fun e => Ev M_X7_skipBlanks 210 210 r 38 210 rho e [(9, 0), (9, 0)] [])
set_option maxHeartbeats 4000000 in
set_option maxRecDepth 20000 in
theorem b_X7_skipBlanks_2  {r : Option V × Mem × Mem} : ∀ a x, f_X7_skipBlanks_2B  a = some x → K_X7_skipBlanks_2  r x → K_X7_skipBlanks_2  r (.inl a) := by
  intro a x h K
  obtain ⟨x1, σ⟩ := a
  have h : f_X7_skipBlanks_2C  x1 σ = some x := h
  unfold f_X7_skipBlanks_2C at h
  show Ev M_X7_skipBlanks 210 210 r 2 210 rho σ [(2, (28 : Int)), (0, x1)] []
  refine ev_iload_n dX7_skipBlanks_2 rfl ?_
  refine ev_sipush dX7_skipBlanks_3 (by decide) (by decide) ?_
  refine ev_icmp_ge (tgt := 38) dX7_skipBlanks_6 rfl h (fun cb h => ?_) (fun cb h => ?_)
  · obtain rfl := Option.some.inj h
    exact ev_sub (L2 := [(9, 0), (9, 0)]) K ⟨.inl rfl, .inl rfl, trivial⟩
  refine ev_aload_n dX7_skipBlanks_9 rfl (by decide) ?_
  refine ev_aload_n dX7_skipBlanks_10 rfl (by decide) ?_
  refine ev_getf (j := 2) (t := 0) (x := (σ (28 : Int) 2)) dX7_skipBlanks_11 cf_X7 wf_X7_22 sp28 (by decide) (by decide) rfl (by decide) rfl ?_
  obtain ⟨v1, hc2, h⟩ := bind_of h
  refine ev_invV_v (k := (28 : Int)) (av := [(0, (σ (28 : Int) 2))]) (st := []) (v := (0, v1)) (τ := σ) dX7_skipBlanks_14 ml_X7_32 mv_X7_byteAt (T := TX7) (ci := 6) rfl sp28 (by decide) (by decide) rfl ⟨Nat.le_of_ble_eq_true rfl, Nat.le_of_ble_eq_true rfl⟩ (Nat.le_of_ble_eq_true rfl) (c_X7_byteAt hc2) ?_
  refine ev_bipush dX7_skipBlanks_17 (by decide) (by decide) ?_
  refine ev_icmp_ne (tgt := 38) dX7_skipBlanks_19 rfl h (fun cb h => ?_) (fun cb h => ?_)
  · obtain rfl := Option.some.inj h
    exact ev_sub (L2 := [(9, 0), (9, 0)]) K ⟨.inl rfl, .inl rfl, trivial⟩
  refine ev_aload_n dX7_skipBlanks_22 rfl (by decide) ?_
  refine ev_dup dX7_skipBlanks_23 (show (2 : Nat) ≠ 1 by decide) ?_
  refine ev_getf (j := 2) (t := 0) (x := (σ (28 : Int) 2)) dX7_skipBlanks_24 cf_X7 wf_X7_22 sp28 (by decide) (by decide) rfl (by decide) rfl ?_
  refine ev_iconst dX7_skipBlanks_27 (by decide) ?_
  refine ev_iadd dX7_skipBlanks_28 ?_
  refine ev_putfG (j := 2) (t := 0) dX7_skipBlanks_29 cf_X7 wf_X7_22 sp28 (by decide) (by decide) rfl (by decide) (by decide) rfl (fun z => absurd z (by decide +kernel)) h (fun σ3 h => ?_)
  refine ev_iincG dX7_skipBlanks_32 rfl h rfl (fun v4 h => ?_)
  show Ev _ _ _ _ 35 _ _ _ [(2, (28 : Int)), (0, v4)] _
  refine ev_goto (tgt := 2) dX7_skipBlanks_35 rfl ?_
  obtain rfl := Option.some.inj h
  exact ev_sub (L2 := [(2, (28 : Int)), (0, v4)]) K ⟨.inr rfl, .inr rfl, trivial⟩
set_option maxHeartbeats 4000000 in
set_option maxRecDepth 20000 in
theorem e_X7_skipBlanks_2 (σ : Mem) (x1 : Int)  {q : Mem} (h : f_X7_skipBlanks_2 σ x1 = some q) : Ev M_X7_skipBlanks 210 210 (none, rho, q) 2 210 rho σ [(2, (28 : Int)), (0, x1)] [] := by
  unfold f_X7_skipBlanks_2 at h
  obtain ⟨e, hl, h⟩ := bind_of h
  refine loop_ev (K := K_X7_skipBlanks_2  (none, rho, q)) (b_X7_skipBlanks_2 ) FU (x1, σ) e hl ?_
  show Ev M_X7_skipBlanks 210 210 _ 38 210 rho e [(9, 0), (9, 0)] []
  replace h : some e = some q := h
  obtain rfl := Option.some.inj h
  exact ev_vret dX7_skipBlanks_38 rfl rfl
set_option maxHeartbeats 4000000 in
set_option maxRecDepth 20000 in
theorem c_X7_skipBlanks {σ : Mem}  {q : Mem} (h : f_X7_skipBlanks σ  = some q) : Ms yX7_skipBlanks M_X7_skipBlanks 210 210 [(2, (28 : Int))] rho σ (none, rho, q) := by
  refine Ms.of 1 (by decide +kernel) rfl (fun z => absurd z (by decide)) (fun _ _ _ => trivial) rfl rfl ?_
  unfold f_X7_skipBlanks at h
  show Ev M_X7_skipBlanks 210 210 _ 0 210 rho σ [(2, (28 : Int)), (9, 0)] []
  refine ev_iconst dX7_skipBlanks_0 (by decide) ?_
  refine ev_istore_n dX7_skipBlanks_1 rfl (by decide) ?_
  show Ev _ _ _ _ 2 _ _ _ [(2, (28 : Int)), (0, (0 : Int))] _
  exact ev_sub (L2 := [(2, (28 : Int)), (0, (0 : Int))]) (e_X7_skipBlanks_2 σ (0 : Int) h) ⟨.inr rfl, .inr rfl, trivial⟩
set_option maxHeartbeats 4000000 in
set_option maxRecDepth 20000 in
theorem c_X7_isLetter {σ : Mem} {x0 : Int}  {q : Int} (h : f_X7_isLetter σ x0 = some q) : Ms yX7_isLetter M_X7_isLetter 210 210 [(0, x0)] rho σ (some (0, q), rho, σ) := by
  refine Ms.of 0 (by decide +kernel) rfl (fun z => absurd z (by decide)) (fun _ _ _ => trivial) rfl rfl ?_
  unfold f_X7_isLetter at h
  show Ev M_X7_isLetter 210 210 _ 0 210 rho σ [(0, x0)] []
  refine ev_iload_n dX7_isLetter_0 rfl ?_
  refine ev_bipush dX7_isLetter_1 (by decide) (by decide) ?_
  refine ev_icmp_lt (tgt := 16) dX7_isLetter_3 rfl h (fun cb h => ?_) (fun cb h => ?_)
  · refine ev_iconst dX7_isLetter_16 (by decide) ?_
    obtain rfl := Option.some.inj h
    exact ev_zret dX7_isLetter_17 rfl (chk_pos (.inl rfl))
  refine ev_iload_n dX7_isLetter_6 rfl ?_
  refine ev_bipush dX7_isLetter_7 (by decide) (by decide) ?_
  refine ev_icmp_gt (tgt := 16) dX7_isLetter_9 rfl h (fun cb h => ?_) (fun cb h => ?_)
  · refine ev_iconst dX7_isLetter_16 (by decide) ?_
    obtain rfl := Option.some.inj h
    exact ev_zret dX7_isLetter_17 rfl (chk_pos (.inl rfl))
  refine ev_iconst dX7_isLetter_12 (by decide) ?_
  refine ev_goto (tgt := 17) dX7_isLetter_13 rfl ?_
  obtain rfl := Option.some.inj h
  exact ev_zret dX7_isLetter_17 rfl (chk_pos (.inr rfl))
set_option maxHeartbeats 4000000 in
set_option maxRecDepth 20000 in
theorem c_J0_coder_7d493 {σ : Mem} {x0 : Int} (hx0 : isS x0) {q : Int} (h : f_J0_coder_7d493 σ x0 = some q) : Ms yJ0_coder_7d493 M_J0_coder_7d493 210 210 [(3, x0)] rho σ (some (0, q), rho, σ) := by
  refine Ms.of 0 (by decide +kernel) rfl (fun z => absurd z (by decide)) (fun _ _ _ => trivial) rfl rfl ?_
  unfold f_J0_coder_7d493 at h
  show Ev M_J0_coder_7d493 210 210 _ 0 210 rho σ [(3, x0)] []
  refine ev_gsZ dJ0_coder_7d493_0 wf_J0_38 ?_
  refine ev_if_eq (tgt := 13) dJ0_coder_7d493_3 rfl h (fun cb h => ?_) (fun cb h => ?_)
  · refine ev_iconst dJ0_coder_7d493_13 (by decide) ?_
    obtain rfl := Option.some.inj h
    exact ev_cret (ty := .byte) dJ0_coder_7d493_14 rfl rfl rfl
  refine ev_aloadS dJ0_coder_7d493_6 rfl ?_
  refine ev_scod dJ0_coder_7d493_7 wf_J0_15 hx0 ?_
  refine ev_goto (tgt := 14) dJ0_coder_7d493_10 rfl ?_
  obtain rfl := Option.some.inj h
  exact ev_cret (ty := .byte) dJ0_coder_7d493_14 rfl rfl rfl
set_option maxHeartbeats 4000000 in
set_option maxRecDepth 20000 in
theorem c_J0_length_8abf5 {σ : Mem} {x0 : Int} (hx0 : isS x0) {q : Int} (h : f_J0_length_8abf5 σ x0 = some q) : Ms yJ0_length_8abf5 M_J0_length_8abf5 210 210 [(3, x0)] rho σ (some (0, q), rho, σ) := by
  refine Ms.of 0 (by decide +kernel) rfl (fun z => absurd z (by decide)) (fun _ _ _ => trivial) rfl rfl ?_
  unfold f_J0_length_8abf5 at h
  show Ev M_J0_length_8abf5 210 210 _ 0 210 rho σ [(3, x0)] []
  refine ev_aloadS dJ0_length_8abf5_0 rfl ?_
  refine ev_sval dJ0_length_8abf5_1 wf_J0_9 hx0 ?_
  refine ev_sbl dJ0_length_8abf5_4 hx0 (lnS_ok _) ?_
  refine ev_aloadS dJ0_length_8abf5_5 rfl ?_
  obtain ⟨v1, hc2, h⟩ := bind_of h
  refine ev_invVs_v (k := x0) (av := []) (st := [(0, (lnS x0))]) (v := (0, v1)) (τ := σ) dJ0_length_8abf5_6 ml_J0_335 mv_J0_coder_7d493 rfl hx0 rfl ⟨Nat.le_of_ble_eq_true rfl, Nat.le_of_ble_eq_true rfl⟩ (Nat.le_of_ble_eq_true rfl) (c_J0_coder_7d493 hx0 hc2) ?_
  refine ev_ishr dJ0_length_8abf5_9 ?_
  obtain rfl := Option.some.inj h
  exact ev_iret dJ0_length_8abf5_10 rfl rfl
set_option maxHeartbeats 4000000 in
set_option maxRecDepth 20000 in
theorem c_J0_isLatin1_aae02 {σ : Mem} {x0 : Int} (hx0 : isS x0) {q : Int} (h : f_J0_isLatin1_aae02 σ x0 = some q) : Ms yJ0_isLatin1_aae02 M_J0_isLatin1_aae02 210 210 [(3, x0)] rho σ (some (0, q), rho, σ) := by
  refine Ms.of 0 (by decide +kernel) rfl (fun z => absurd z (by decide)) (fun _ _ _ => trivial) rfl rfl ?_
  unfold f_J0_isLatin1_aae02 at h
  show Ev M_J0_isLatin1_aae02 210 210 _ 0 210 rho σ [(3, x0)] []
  refine ev_gsZ dJ0_isLatin1_aae02_0 wf_J0_38 ?_
  refine ev_if_eq (tgt := 17) dJ0_isLatin1_aae02_3 rfl h (fun cb h => ?_) (fun cb h => ?_)
  · refine ev_iconst dJ0_isLatin1_aae02_17 (by decide) ?_
    obtain rfl := Option.some.inj h
    exact ev_zret dJ0_isLatin1_aae02_18 rfl (chk_pos (.inl rfl))
  refine ev_aloadS dJ0_isLatin1_aae02_6 rfl ?_
  refine ev_scod dJ0_isLatin1_aae02_7 wf_J0_15 hx0 ?_
  refine ev_if_ne (tgt := 17) dJ0_isLatin1_aae02_10 rfl h (fun cb h => ?_) (fun cb h => ?_)
  · refine ev_iconst dJ0_isLatin1_aae02_17 (by decide) ?_
    obtain rfl := Option.some.inj h
    exact ev_zret dJ0_isLatin1_aae02_18 rfl (chk_pos (.inl rfl))
  refine ev_iconst dJ0_isLatin1_aae02_13 (by decide) ?_
  refine ev_goto (tgt := 18) dJ0_isLatin1_aae02_14 rfl ?_
  obtain rfl := Option.some.inj h
  exact ev_zret dJ0_isLatin1_aae02_18 rfl (chk_pos (.inr rfl))
set_option maxHeartbeats 4000000 in
set_option maxRecDepth 20000 in
theorem e_J3_checkIndex_8e157_9 (σ : Mem) (x0 x1 : Int)  {q : Int} (h : f_J3_checkIndex_8e157_9 σ x0 x1 = some q) : Ev M_J3_checkIndex_8e157 210 210 (some (0, q), rho, σ) 9 210 rho σ [(0, x0), (0, x1), (5, (0 : Int))] [] := by
  unfold f_J3_checkIndex_8e157_9 at h
  exact nomatch h
set_option maxHeartbeats 4000000 in
set_option maxRecDepth 20000 in
theorem c_J3_checkIndex_8e157 {σ : Mem} {x0 x1 : Int}  {q : Int} (h : f_J3_checkIndex_8e157 σ x0 x1 = some q) : Ms yJ3_checkIndex_8e157 M_J3_checkIndex_8e157 210 210 [(0, x0), (0, x1), (5, (0 : Int))] rho σ (some (0, q), rho, σ) := by
  refine Ms.of 0 (by decide +kernel) rfl (fun z => absurd z (by decide)) (fun _ _ _ => trivial) rfl rfl ?_
  unfold f_J3_checkIndex_8e157 at h
  show Ev M_J3_checkIndex_8e157 210 210 _ 0 210 rho σ [(0, x0), (0, x1), (5, (0 : Int))] []
  refine ev_iload_n dJ3_checkIndex_8e157_0 rfl ?_
  refine ev_if_lt (tgt := 9) dJ3_checkIndex_8e157_1 rfl h (fun cb h => ?_) (fun cb h => ?_)
  · exact ev_sub (L2 := [(0, x0), (0, x1), (5, (0 : Int))]) (e_J3_checkIndex_8e157_9 σ x0 x1 h) ⟨.inr rfl, .inr rfl, .inr rfl, trivial⟩
  refine ev_iload_n dJ3_checkIndex_8e157_4 rfl ?_
  refine ev_iload_n dJ3_checkIndex_8e157_5 rfl ?_
  refine ev_icmp_lt (tgt := 16) dJ3_checkIndex_8e157_6 rfl h (fun cb h => ?_) (fun cb h => ?_)
  · refine ev_iload_n dJ3_checkIndex_8e157_16 rfl ?_
    obtain rfl := Option.some.inj h
    exact ev_iret dJ3_checkIndex_8e157_17 rfl rfl
  exact ev_sub (L2 := [(0, x0), (0, x1), (5, (0 : Int))]) (e_J3_checkIndex_8e157_9 σ x0 x1 h) ⟨.inr rfl, .inr rfl, .inr rfl, trivial⟩
set_option maxHeartbeats 4000000 in
set_option maxRecDepth 20000 in
theorem c_J0_checkIndex_df160 {σ : Mem} {x0 x1 : Int}  {q : Unit} (h : f_J0_checkIndex_df160 σ x0 x1 = some q) : Ms yJ0_checkIndex_df160 M_J0_checkIndex_df160 210 210 [(0, x0), (0, x1)] rho σ (none, rho, σ) := by
  refine Ms.of 0 (by decide +kernel) rfl (fun z => absurd z (by decide)) (fun _ _ _ => trivial) rfl rfl ?_
  unfold f_J0_checkIndex_df160 at h
  show Ev M_J0_checkIndex_df160 210 210 _ 0 210 rho σ [(0, x0), (0, x1)] []
  refine ev_iload_n dJ0_checkIndex_df160_0 rfl ?_
  refine ev_iload_n dJ0_checkIndex_df160_1 rfl ?_
  refine ev_gsO dJ0_checkIndex_df160_2 wf_J0_1053 ?_
  obtain ⟨v1, hc2, h⟩ := bind_of h
  refine ev_invS_v (av := [(0, x0), (0, x1), (5, (0 : Int))]) (st := []) (v := (0, v1)) (τ := σ) dJ0_checkIndex_df160_5 ml_J0_1059 mt_J3_checkIndex_8e157 rfl ⟨Nat.le_of_ble_eq_true rfl, Nat.le_of_ble_eq_true rfl⟩ (Nat.le_of_ble_eq_true rfl) (c_J3_checkIndex_8e157 hc2) ?_
  refine ev_pop dJ0_checkIndex_df160_8 (show (0 : Nat) ≠ 1 by decide) ?_
  obtain rfl := Option.some.inj h
  exact ev_vret dJ0_checkIndex_df160_9 rfl rfl
set_option maxHeartbeats 4000000 in
set_option maxRecDepth 20000 in
theorem c_J1_charAt_3b067 {σ : Mem} {x0 x1 : Int} (hx0 : isS x0) {q : Int} (h : f_J1_charAt_3b067 σ x0 x1 = some q) : Ms yJ1_charAt_3b067 M_J1_charAt_3b067 210 210 [(3, (100000 + x0)), (0, x1)] rho σ (some (0, q), rho, σ) := by
  refine Ms.of 0 (by decide +kernel) rfl (fun z => absurd z (by decide)) (fun _ _ _ => trivial) rfl rfl ?_
  unfold f_J1_charAt_3b067 at h
  show Ev M_J1_charAt_3b067 210 210 _ 0 210 rho σ [(3, (100000 + x0)), (0, x1)] []
  refine ev_iload_n dJ1_charAt_3b067_0 rfl ?_
  refine ev_aloadS dJ1_charAt_3b067_1 rfl ?_
  refine ev_sbl dJ1_charAt_3b067_2 hx0 (lnS_ok _) ?_
  obtain ⟨v1, hc2, h⟩ := bind_of h
  refine ev_invS_n (av := [(0, x1), (0, (lnS x0))]) (st := []) (τ := σ) dJ1_charAt_3b067_3 ml_J1_9 mt_J0_checkIndex_df160 rfl ⟨Nat.le_of_ble_eq_true rfl, Nat.le_of_ble_eq_true rfl⟩ (Nat.le_of_ble_eq_true rfl) (c_J0_checkIndex_df160 hc2) ?_
  refine ev_aloadS dJ1_charAt_3b067_6 rfl ?_
  refine ev_iload_n dJ1_charAt_3b067_7 rfl ?_
  refine ev_sbld dJ1_charAt_3b067_8 hx0 h (fun h => ?_)
  refine ev_sipush dJ1_charAt_3b067_9 (by decide) (by decide) ?_
  refine ev_iand dJ1_charAt_3b067_12 ?_
  refine ev_i2c dJ1_charAt_3b067_13 ?_
  obtain ⟨hz, h⟩ := chk_of h
  obtain rfl := Option.some.inj h
  exact ev_cret (ty := .char) dJ1_charAt_3b067_14 rfl (nar_chr hz) rfl
set_option maxHeartbeats 4000000 in
set_option maxRecDepth 20000 in
theorem c_J0_charAt_5068e {σ : Mem} {x0 x1 : Int} (hx0 : isS x0) {q : Int} (h : f_J0_charAt_5068e σ x0 x1 = some q) : Ms yJ0_charAt_5068e M_J0_charAt_5068e 210 210 [(3, x0), (0, x1)] rho σ (some (0, q), rho, σ) := by
  refine Ms.of 0 (by decide +kernel) rfl (fun z => absurd z (by decide)) (fun _ _ _ => trivial) rfl rfl ?_
  unfold f_J0_charAt_5068e at h
  show Ev M_J0_charAt_5068e 210 210 _ 0 210 rho σ [(3, x0), (0, x1)] []
  refine ev_aloadS dJ0_charAt_5068e_0 rfl ?_
  obtain ⟨v1, hc2, h⟩ := bind_of h
  refine ev_invVs_v (k := x0) (av := []) (st := []) (v := (0, v1)) (τ := σ) dJ0_charAt_5068e_1 ml_J0_492 mv_J0_isLatin1_aae02 rfl hx0 rfl ⟨Nat.le_of_ble_eq_true rfl, Nat.le_of_ble_eq_true rfl⟩ (Nat.le_of_ble_eq_true rfl) (c_J0_isLatin1_aae02 hx0 hc2) ?_
  refine ev_if_eq (tgt := 16) dJ0_charAt_5068e_4 rfl h (fun cb h => ?_) (fun cb h => ?_)
  · refine ev_aloadS dJ0_charAt_5068e_16 rfl ?_
    refine ev_sval dJ0_charAt_5068e_17 wf_J0_9 hx0 ?_
    refine ev_iload_n dJ0_charAt_5068e_20 rfl ?_
    exact nomatch h
  refine ev_aloadS dJ0_charAt_5068e_7 rfl ?_
  refine ev_sval dJ0_charAt_5068e_8 wf_J0_9 hx0 ?_
  refine ev_iload_n dJ0_charAt_5068e_11 rfl ?_
  obtain ⟨v3, hc4, h⟩ := bind_of h
  refine ev_invS_v (av := [(3, (100000 + x0)), (0, x1)]) (st := []) (v := (0, v3)) (τ := σ) dJ0_charAt_5068e_12 ml_J0_495 mt_J1_charAt_3b067 rfl ⟨Nat.le_of_ble_eq_true rfl, Nat.le_of_ble_eq_true rfl⟩ (Nat.le_of_ble_eq_true rfl) (c_J1_charAt_3b067 hx0 hc4) ?_
  obtain ⟨hz, h⟩ := chk_of h
  obtain rfl := Option.some.inj h
  exact ev_cret (ty := .char) dJ0_charAt_5068e_15 rfl (nar_chr hz) rfl
def K_X7_isWord_20 (σ : Mem) (x1 : Int) (r : Option V × Mem × Mem) : (Int) ⊕ ((Unit) ⊕ (Unit)) → Prop := Sum.elim (fun a => Ev M_X7_isWord 210 210 r 20 210 rho σ [(2, (28 : Int)), (3, x1), (0, a)] []) (Sum.elim (fun e => Ev M_X7_isWord 210 210 r 46 210 rho σ [(9, 0), (9, 0), (9, 0)] []) (fun e => Ev M_X7_isWord 210 210 r 54 210 rho σ [(9, 0), (9, 0), (9, 0)] []))
set_option maxHeartbeats 4000000 in
set_option maxRecDepth 20000 in
theorem b_X7_isWord_20 (σ : Mem) (x1 : Int) (hx1 : isS x1) {r : Option V × Mem × Mem} : ∀ a x, f_X7_isWord_20B σ x1 a = some x → K_X7_isWord_20 σ x1 r x → K_X7_isWord_20 σ x1 r (.inl a) := by
  intro a x h K
  have ⟨x2, ea⟩ : ∃ z, z = a := ⟨_, rfl⟩
  subst ea
  have h : f_X7_isWord_20C σ x1 x2 = some x := h
  unfold f_X7_isWord_20C at h
  show Ev M_X7_isWord 210 210 r 20 210 rho σ [(2, (28 : Int)), (3, x1), (0, x2)] []
  refine ev_iload_n dX7_isWord_20 rfl ?_
  refine ev_aloadS dX7_isWord_21 rfl ?_
  obtain ⟨v3, hc4, h⟩ := bind_of h
  refine ev_invVs_v (k := x1) (av := []) (st := [(0, x2)]) (v := (0, v3)) (τ := σ) dX7_isWord_22 ml_X7_139 mv_J0_length_8abf5 rfl hx1 rfl ⟨Nat.le_of_ble_eq_true rfl, Nat.le_of_ble_eq_true rfl⟩ (Nat.le_of_ble_eq_true rfl) (c_J0_length_8abf5 hx1 hc4) ?_
  refine ev_icmp_ge (tgt := 54) dX7_isWord_25 rfl h (fun cb h => ?_) (fun cb h => ?_)
  · obtain rfl := Option.some.inj h
    exact ev_sub (L2 := [(9, 0), (9, 0), (9, 0)]) K ⟨.inl rfl, .inl rfl, .inl rfl, trivial⟩
  refine ev_aload_n dX7_isWord_28 rfl (by decide) ?_
  refine ev_aload_n dX7_isWord_29 rfl (by decide) ?_
  refine ev_getf (j := 3) (t := 0) (x := (σ (28 : Int) 3)) dX7_isWord_30 cf_X7 wf_X7_36 sp28 (by decide) (by decide) rfl (by decide) rfl ?_
  refine ev_iload_n dX7_isWord_33 rfl ?_
  refine ev_iadd dX7_isWord_34 ?_
  obtain ⟨v5, hc6, h⟩ := bind_of h
  refine ev_invV_v (k := (28 : Int)) (av := [(0, (jadd (σ (28 : Int) 3) x2))]) (st := []) (v := (0, v5)) (τ := σ) dX7_isWord_35 ml_X7_32 mv_X7_byteAt (T := TX7) (ci := 6) rfl sp28 (by decide) (by decide) rfl ⟨Nat.le_of_ble_eq_true rfl, Nat.le_of_ble_eq_true rfl⟩ (Nat.le_of_ble_eq_true rfl) (c_X7_byteAt hc6) ?_
  refine ev_aloadS dX7_isWord_38 rfl ?_
  refine ev_iload_n dX7_isWord_39 rfl ?_
  obtain ⟨v7, hc8, h⟩ := bind_of h
  refine ev_invVs_v (k := x1) (av := [(0, x2)]) (st := [(0, v5)]) (v := (0, v7)) (τ := σ) dX7_isWord_40 ml_X7_145 mv_J0_charAt_5068e rfl hx1 rfl ⟨Nat.le_of_ble_eq_true rfl, Nat.le_of_ble_eq_true rfl⟩ (Nat.le_of_ble_eq_true rfl) (c_J0_charAt_5068e hx1 hc8) ?_
  refine ev_icmp_eq (tgt := 48) dX7_isWord_43 rfl h (fun cb h => ?_) (fun cb h => ?_)
  · refine ev_iincG dX7_isWord_48 rfl h rfl (fun v9 h => ?_)
    show Ev _ _ _ _ 51 _ _ _ [(2, (28 : Int)), (3, x1), (0, v9)] _
    refine ev_goto (tgt := 20) dX7_isWord_51 rfl ?_
    obtain rfl := Option.some.inj h
    exact ev_sub (L2 := [(2, (28 : Int)), (3, x1), (0, v9)]) K ⟨.inr rfl, .inr rfl, .inr rfl, trivial⟩
  obtain rfl := Option.some.inj h
  exact ev_sub (L2 := [(9, 0), (9, 0), (9, 0)]) K ⟨.inl rfl, .inl rfl, .inl rfl, trivial⟩
set_option maxHeartbeats 4000000 in
set_option maxRecDepth 20000 in
theorem e_X7_isWord_20 (σ : Mem) (x1 x2 : Int) (hx1 : isS x1) {q : Int} (h : f_X7_isWord_20 σ x1 x2 = some q) : Ev M_X7_isWord 210 210 (some (0, q), rho, σ) 20 210 rho σ [(2, (28 : Int)), (3, x1), (0, x2)] [] := by
  unfold f_X7_isWord_20 at h
  obtain ⟨e, hl, h⟩ := bind_of h
  refine loop_ev (K := K_X7_isWord_20 σ x1 (some (0, q), rho, σ)) (b_X7_isWord_20 σ x1 hx1) FU x2 e hl ?_
  rcases e with e | e
  · show Ev M_X7_isWord 210 210 _ 46 210 rho σ [(9, 0), (9, 0), (9, 0)] []
    replace h : some (0 : Int) = some q := h
    refine ev_iconst dX7_isWord_46 (by decide) ?_
    obtain rfl := Option.some.inj h
    exact ev_zret dX7_isWord_47 rfl (chk_pos (.inl rfl))
  · show Ev M_X7_isWord 210 210 _ 54 210 rho σ [(9, 0), (9, 0), (9, 0)] []
    replace h : some (1 : Int) = some q := h
    refine ev_iconst dX7_isWord_54 (by decide) ?_
    obtain rfl := Option.some.inj h
    exact ev_zret dX7_isWord_55 rfl (chk_pos (.inr rfl))
set_option maxHeartbeats 4000000 in
set_option maxRecDepth 20000 in
theorem c_X7_isWord {σ : Mem} {x1 : Int} (hx1 : isS x1) {q : Int} (h : f_X7_isWord σ x1 = some q) : Ms yX7_isWord M_X7_isWord 210 210 [(2, (28 : Int)), (3, x1)] rho σ (some (0, q), rho, σ) := by
  refine Ms.of 1 (by decide +kernel) rfl (fun z => absurd z (by decide)) (fun _ _ _ => trivial) rfl rfl ?_
  unfold f_X7_isWord at h
  show Ev M_X7_isWord 210 210 _ 0 210 rho σ [(2, (28 : Int)), (3, x1), (9, 0)] []
  refine ev_aload_n dX7_isWord_0 rfl (by decide) ?_
  refine ev_getf (j := 2) (t := 0) (x := (σ (28 : Int) 2)) dX7_isWord_1 cf_X7 wf_X7_22 sp28 (by decide) (by decide) rfl (by decide) rfl ?_
  refine ev_aload_n dX7_isWord_4 rfl (by decide) ?_
  refine ev_getf (j := 3) (t := 0) (x := (σ (28 : Int) 3)) dX7_isWord_5 cf_X7 wf_X7_36 sp28 (by decide) (by decide) rfl (by decide) rfl ?_
  refine ev_isub dX7_isWord_8 ?_
  refine ev_aloadS dX7_isWord_9 rfl ?_
  obtain ⟨v1, hc2, h⟩ := bind_of h
  refine ev_invVs_v (k := x1) (av := []) (st := [(0, (jsub (σ (28 : Int) 2) (σ (28 : Int) 3)))]) (v := (0, v1)) (τ := σ) dX7_isWord_10 ml_X7_139 mv_J0_length_8abf5 rfl hx1 rfl ⟨Nat.le_of_ble_eq_true rfl, Nat.le_of_ble_eq_true rfl⟩ (Nat.le_of_ble_eq_true rfl) (c_J0_length_8abf5 hx1 hc2) ?_
  refine ev_icmp_eq (tgt := 18) dX7_isWord_13 rfl h (fun cb h => ?_) (fun cb h => ?_)
  · refine ev_iconst dX7_isWord_18 (by decide) ?_
    refine ev_istore_n dX7_isWord_19 rfl (by decide) ?_
    show Ev _ _ _ _ 20 _ _ _ [(2, (28 : Int)), (3, x1), (0, (0 : Int))] _
    exact ev_sub (L2 := [(2, (28 : Int)), (3, x1), (0, (0 : Int))]) (e_X7_isWord_20 σ x1 (0 : Int) hx1 h) ⟨.inr rfl, .inr rfl, .inr rfl, trivial⟩
  refine ev_iconst dX7_isWord_16 (by decide) ?_
  obtain rfl := Option.some.inj h
  exact ev_zret dX7_isWord_17 rfl (chk_pos (.inl rfl))
set_option maxHeartbeats 4000000 in
set_option maxRecDepth 20000 in
theorem c_X7_faultHere {σ : Mem}  {q : (Int × Mem)} (h : f_X7_faultHere σ  = some q) : Ms yX7_faultHere M_X7_faultHere 210 210 [(2, (28 : Int))] rho σ (some (0, q.1), rho, q.2) := by
  refine Ms.of 0 (by decide +kernel) rfl (fun z => absurd z (by decide)) (fun _ _ _ => trivial) rfl rfl ?_
  unfold f_X7_faultHere at h
  show Ev M_X7_faultHere 210 210 _ 0 210 rho σ [(2, (28 : Int))] []
  refine ev_aload_n dX7_faultHere_0 rfl (by decide) ?_
  refine ev_aload_n dX7_faultHere_1 rfl (by decide) ?_
  refine ev_getf (j := 3) (t := 0) (x := (σ (28 : Int) 3)) dX7_faultHere_2 cf_X7 wf_X7_36 sp28 (by decide) (by decide) rfl (by decide) rfl ?_
  refine ev_putfG (j := 4) (t := 0) dX7_faultHere_5 cf_X7 wf_X7_19 sp28 (by decide) (by decide) rfl (by decide) (by decide) rfl (fun z => absurd z (by decide +kernel)) h (fun σ1 h => ?_)
  refine ev_iconst dX7_faultHere_8 (by decide) ?_
  obtain rfl := Option.some.inj h
  exact ev_zret dX7_faultHere_9 rfl (chk_pos (.inl rfl))
set_option maxHeartbeats 4000000 in
set_option maxRecDepth 20000 in
theorem c_X7_isDigit {σ : Mem} {x0 : Int}  {q : Int} (h : f_X7_isDigit σ x0 = some q) : Ms yX7_isDigit M_X7_isDigit 210 210 [(0, x0)] rho σ (some (0, q), rho, σ) := by
  refine Ms.of 0 (by decide +kernel) rfl (fun z => absurd z (by decide)) (fun _ _ _ => trivial) rfl rfl ?_
  unfold f_X7_isDigit at h
  show Ev M_X7_isDigit 210 210 _ 0 210 rho σ [(0, x0)] []
  refine ev_iload_n dX7_isDigit_0 rfl ?_
  refine ev_bipush dX7_isDigit_1 (by decide) (by decide) ?_
  refine ev_icmp_lt (tgt := 16) dX7_isDigit_3 rfl h (fun cb h => ?_) (fun cb h => ?_)
  · refine ev_iconst dX7_isDigit_16 (by decide) ?_
    obtain rfl := Option.some.inj h
    exact ev_zret dX7_isDigit_17 rfl (chk_pos (.inl rfl))
  refine ev_iload_n dX7_isDigit_6 rfl ?_
  refine ev_bipush dX7_isDigit_7 (by decide) (by decide) ?_
  refine ev_icmp_gt (tgt := 16) dX7_isDigit_9 rfl h (fun cb h => ?_) (fun cb h => ?_)
  · refine ev_iconst dX7_isDigit_16 (by decide) ?_
    obtain rfl := Option.some.inj h
    exact ev_zret dX7_isDigit_17 rfl (chk_pos (.inl rfl))
  refine ev_iconst dX7_isDigit_12 (by decide) ?_
  refine ev_goto (tgt := 17) dX7_isDigit_13 rfl ?_
  obtain rfl := Option.some.inj h
  exact ev_zret dX7_isDigit_17 rfl (chk_pos (.inr rfl))
def K_X7_number_20 (x1 x2 : Int) (r : Option V × Mem × Mem) : (Int × Int × Int × Mem) ⊕ ((Int × Int × Mem)) → Prop := Sum.elim (fun a => Ev M_X7_number 210 210 r 20 210 rho a.2.2.2 [(2, (28 : Int)), (0, x1), (0, x2), (0, a.1), (0, a.2.1), (0, a.2.2.1)] []) (fun e => Ev M_X7_number 210 210 r 84 210 rho e.2.2 [(2, (28 : Int)), (0, x1), (0, x2), (0, e.1), (0, e.2.1), (9, 0)] [])
set_option maxHeartbeats 4000000 in
set_option maxRecDepth 20000 in
theorem e_X7_number_65 (σ : Mem) (x1 x2 x3 x4 x5 : Int)  {q : ((Int × Int × Int × Mem) ⊕ ((Int × Int × Mem)))} (h : f_X7_number_65 σ x1 x2 x3 x4 x5 = some q) {r : Option V × Mem × Mem} (K : K_X7_number_20 x1 x2 r q) : Ev M_X7_number 210 210 r 65 210 rho σ [(2, (28 : Int)), (0, x1), (0, x2), (0, x3), (0, x4), (0, x5)] [] := by
  unfold f_X7_number_65 at h
  refine ev_iincG dX7_number_65 rfl h rfl (fun v11 h => ?_)
  show Ev _ _ _ _ 68 _ _ _ [(2, (28 : Int)), (0, x1), (0, x2), (0, x3), (0, v11), (0, x5)] _
  refine ev_aload_n dX7_number_68 rfl (by decide) ?_
  refine ev_dup dX7_number_69 (show (2 : Nat) ≠ 1 by decide) ?_
  refine ev_getf (j := 2) (t := 0) (x := (σ (28 : Int) 2)) dX7_number_70 cf_X7 wf_X7_22 sp28 (by decide) (by decide) rfl (by decide) rfl ?_
  refine ev_iconst dX7_number_73 (by decide) ?_
  refine ev_iadd dX7_number_74 ?_
  refine ev_putfG (j := 2) (t := 0) dX7_number_75 cf_X7 wf_X7_22 sp28 (by decide) (by decide) rfl (by decide) (by decide) rfl (fun z => absurd z (by decide +kernel)) h (fun σ12 h => ?_)
  refine ev_iincG dX7_number_78 rfl h rfl (fun v13 h => ?_)
  show Ev _ _ _ _ 81 _ _ _ [(2, (28 : Int)), (0, x1), (0, x2), (0, x3), (0, v11), (0, v13)] _
  refine ev_goto (tgt := 20) dX7_number_81 rfl ?_
  obtain rfl := Option.some.inj h
  exact ev_sub (L2 := [(2, (28 : Int)), (0, x1), (0, x2), (0, x3), (0, v11), (0, v13)]) K ⟨.inr rfl, .inr rfl, .inr rfl, .inr rfl, .inr rfl, .inr rfl, trivial⟩
set_option maxHeartbeats 4000000 in
set_option maxRecDepth 20000 in
theorem e_X7_number_105 (σ : Mem)  {q : (Int × Mem)} (h : f_X7_number_105 σ  = some q) : Ev M_X7_number 210 210 (some (0, q.1), rho, q.2) 105 210 rho σ [(2, (28 : Int)), (9, 0), (9, 0), (9, 0), (9, 0), (9, 0)] [] := by
  unfold f_X7_number_105 at h
  refine ev_aload_n dX7_number_105 rfl (by decide) ?_
  obtain ⟨v14, hc15, h⟩ := bind_of h
  refine ev_invV_v (k := (28 : Int)) (av := []) (st := []) (v := (0, v14.1)) (τ := v14.2) dX7_number_106 ml_X7_87 mv_X7_faultHere (T := TX7) (ci := 6) rfl sp28 (by decide) (by decide) rfl ⟨Nat.le_of_ble_eq_true rfl, Nat.le_of_ble_eq_true rfl⟩ (Nat.le_of_ble_eq_true rfl) (c_X7_faultHere hc15) ?_
  refine ev_pop dX7_number_109 (show (0 : Nat) ≠ 1 by decide) ?_
  refine ev_iconst dX7_number_110 (by decide) ?_
  obtain rfl := Option.some.inj h
  dsimp only
  exact ev_iret dX7_number_111 rfl rfl
set_option maxHeartbeats 4000000 in
set_option maxRecDepth 20000 in
theorem e_X7_number_84 (σ : Mem) (x1 x2 x3 x4 : Int)  {q : (Int × Mem)} (h : f_X7_number_84 σ x1 x2 x3 x4 = some q) : Ev M_X7_number 210 210 (some (0, q.1), rho, q.2) 84 210 rho σ [(2, (28 : Int)), (0, x1), (0, x2), (0, x3), (0, x4), (9, 0)] [] := by
  unfold f_X7_number_84 at h
  refine ev_iload dX7_number_84 rfl ?_
  refine ev_if_eq (tgt := 105) dX7_number_86 rfl h (fun cb h => ?_) (fun cb h => ?_)
  · exact ev_sub (L2 := [(2, (28 : Int)), (9, 0), (9, 0), (9, 0), (9, 0), (9, 0)]) (e_X7_number_105 σ h) ⟨.inr rfl, .inl rfl, .inl rfl, .inl rfl, .inl rfl, .inl rfl, trivial⟩
  refine ev_iload dX7_number_89 rfl ?_
  refine ev_iconst dX7_number_91 (by decide) ?_
  refine ev_icmp_gt (tgt := 105) dX7_number_92 rfl h (fun cb h => ?_) (fun cb h => ?_)
  · exact ev_sub (L2 := [(2, (28 : Int)), (9, 0), (9, 0), (9, 0), (9, 0), (9, 0)]) (e_X7_number_105 σ h) ⟨.inr rfl, .inl rfl, .inl rfl, .inl rfl, .inl rfl, .inl rfl, trivial⟩
  refine ev_iload_n dX7_number_95 rfl ?_
  refine ev_iload_n dX7_number_96 rfl ?_
  refine ev_icmp_lt (tgt := 105) dX7_number_97 rfl h (fun cb h => ?_) (fun cb h => ?_)
  · exact ev_sub (L2 := [(2, (28 : Int)), (9, 0), (9, 0), (9, 0), (9, 0), (9, 0)]) (e_X7_number_105 σ h) ⟨.inr rfl, .inl rfl, .inl rfl, .inl rfl, .inl rfl, .inl rfl, trivial⟩
  refine ev_iload_n dX7_number_100 rfl ?_
  refine ev_iload_n dX7_number_101 rfl ?_
  refine ev_icmp_le (tgt := 112) dX7_number_102 rfl h (fun cb h => ?_) (fun cb h => ?_)
  · refine ev_iload_n dX7_number_112 rfl ?_
    obtain rfl := Option.some.inj h
    dsimp only
    exact ev_iret dX7_number_113 rfl rfl
  exact ev_sub (L2 := [(2, (28 : Int)), (9, 0), (9, 0), (9, 0), (9, 0), (9, 0)]) (e_X7_number_105 σ h) ⟨.inr rfl, .inl rfl, .inl rfl, .inl rfl, .inl rfl, .inl rfl, trivial⟩
set_option maxHeartbeats 4000000 in
set_option maxRecDepth 20000 in
theorem b_X7_number_20 (x1 x2 : Int)  {r : Option V × Mem × Mem} : ∀ a x, f_X7_number_20B x1 x2 a = some x → K_X7_number_20 x1 x2 r x → K_X7_number_20 x1 x2 r (.inl a) := by
  intro a x h K
  obtain ⟨x3, x4, x5, σ⟩ := a
  have h : f_X7_number_20C x1 x2 x3 x4 x5 σ = some x := h
  unfold f_X7_number_20C at h
  show Ev M_X7_number 210 210 r 20 210 rho σ [(2, (28 : Int)), (0, x1), (0, x2), (0, x3), (0, x4), (0, x5)] []
  refine ev_iload dX7_number_20 rfl ?_
  refine ev_sipush dX7_number_22 (by decide) (by decide) ?_
  refine ev_icmp_ge (tgt := 84) dX7_number_25 rfl h (fun cb h => ?_) (fun cb h => ?_)
  · obtain rfl := Option.some.inj h
    exact ev_sub (L2 := [(2, (28 : Int)), (0, x1), (0, x2), (0, x3), (0, x4), (9, 0)]) K ⟨.inr rfl, .inr rfl, .inr rfl, .inr rfl, .inr rfl, .inl rfl, trivial⟩
  refine ev_aload_n dX7_number_28 rfl (by decide) ?_
  refine ev_aload_n dX7_number_29 rfl (by decide) ?_
  refine ev_getf (j := 2) (t := 0) (x := (σ (28 : Int) 2)) dX7_number_30 cf_X7 wf_X7_22 sp28 (by decide) (by decide) rfl (by decide) rfl ?_
  obtain ⟨v4, hc5, h⟩ := bind_of h
  refine ev_invV_v (k := (28 : Int)) (av := [(0, (σ (28 : Int) 2))]) (st := []) (v := (0, v4)) (τ := σ) dX7_number_33 ml_X7_32 mv_X7_byteAt (T := TX7) (ci := 6) rfl sp28 (by decide) (by decide) rfl ⟨Nat.le_of_ble_eq_true rfl, Nat.le_of_ble_eq_true rfl⟩ (Nat.le_of_ble_eq_true rfl) (c_X7_byteAt hc5) ?_
  obtain ⟨v6, hc7, h⟩ := bind_of h
  refine ev_invS_v (av := [(0, v4)]) (st := []) (v := (0, v6)) (τ := σ) dX7_number_36 ml_X7_136 mt_X7_isDigit rfl ⟨Nat.le_of_ble_eq_true rfl, Nat.le_of_ble_eq_true rfl⟩ (Nat.le_of_ble_eq_true rfl) (c_X7_isDigit hc7) ?_
  refine ev_if_eq (tgt := 84) dX7_number_39 rfl h (fun cb h => ?_) (fun cb h => ?_)
  · obtain rfl := Option.some.inj h
    exact ev_sub (L2 := [(2, (28 : Int)), (0, x1), (0, x2), (0, x3), (0, x4), (9, 0)]) K ⟨.inr rfl, .inr rfl, .inr rfl, .inr rfl, .inr rfl, .inl rfl, trivial⟩
  refine ev_iload dX7_number_42 rfl ?_
  refine ev_iconst dX7_number_44 (by decide) ?_
  refine ev_icmp_ge (tgt := 65) dX7_number_45 rfl h (fun cb h => ?_) (fun cb h => ?_)
  · exact ev_sub (L2 := [(2, (28 : Int)), (0, x1), (0, x2), (0, x3), (0, x4), (0, x5)]) (e_X7_number_65 σ x1 x2 x3 x4 x5 h K) ⟨.inr rfl, .inr rfl, .inr rfl, .inr rfl, .inr rfl, .inr rfl, trivial⟩
  refine ev_iload_n dX7_number_48 rfl ?_
  refine ev_bipush dX7_number_49 (by decide) (by decide) ?_
  refine ev_imul dX7_number_51 ?_
  refine ev_aload_n dX7_number_52 rfl (by decide) ?_
  refine ev_aload_n dX7_number_53 rfl (by decide) ?_
  refine ev_getf (j := 2) (t := 0) (x := (σ (28 : Int) 2)) dX7_number_54 cf_X7 wf_X7_22 sp28 (by decide) (by decide) rfl (by decide) rfl ?_
  obtain ⟨v8, hc9, h⟩ := bind_of h
  refine ev_invV_v (k := (28 : Int)) (av := [(0, (σ (28 : Int) 2))]) (st := [(0, (jmul x3 (10 : Int)))]) (v := (0, v8)) (τ := σ) dX7_number_57 ml_X7_32 mv_X7_byteAt (T := TX7) (ci := 6) rfl sp28 (by decide) (by decide) rfl ⟨Nat.le_of_ble_eq_true rfl, Nat.le_of_ble_eq_true rfl⟩ (Nat.le_of_ble_eq_true rfl) (c_X7_byteAt hc9) ?_
  refine ev_iadd dX7_number_60 ?_
  refine ev_bipush dX7_number_61 (by decide) (by decide) ?_
  refine ev_isub dX7_number_63 ?_
  refine ev_istore_nG dX7_number_64 h rfl (by decide) (fun v10 h => ?_)
  show Ev _ _ _ _ 65 _ _ _ [(2, (28 : Int)), (0, x1), (0, x2), (0, v10), (0, x4), (0, x5)] _
  exact ev_sub (L2 := [(2, (28 : Int)), (0, x1), (0, x2), (0, v10), (0, x4), (0, x5)]) (e_X7_number_65 σ x1 x2 v10 x4 x5 h K) ⟨.inr rfl, .inr rfl, .inr rfl, .inr rfl, .inr rfl, .inr rfl, trivial⟩
set_option maxHeartbeats 4000000 in
set_option maxRecDepth 20000 in
theorem e_X7_number_20 (σ : Mem) (x1 x2 x3 x4 x5 : Int)  {q : (Int × Mem)} (h : f_X7_number_20 σ x1 x2 x3 x4 x5 = some q) : Ev M_X7_number 210 210 (some (0, q.1), rho, q.2) 20 210 rho σ [(2, (28 : Int)), (0, x1), (0, x2), (0, x3), (0, x4), (0, x5)] [] := by
  unfold f_X7_number_20 at h
  obtain ⟨e, hl, h⟩ := bind_of h
  refine loop_ev (K := K_X7_number_20 x1 x2 (some (0, q.1), rho, q.2)) (b_X7_number_20 x1 x2) FU (x3, x4, x5, σ) e hl ?_
  show Ev M_X7_number 210 210 _ 84 210 rho e.2.2 [(2, (28 : Int)), (0, x1), (0, x2), (0, e.1), (0, e.2.1), (9, 0)] []
  replace h : f_X7_number_84 e.2.2 x1 x2 e.1 e.2.1 = some q := h
  exact ev_sub (L2 := [(2, (28 : Int)), (0, x1), (0, x2), (0, e.1), (0, e.2.1), (9, 0)]) (e_X7_number_84 e.2.2 x1 x2 e.1 e.2.1 h) ⟨.inr rfl, .inr rfl, .inr rfl, .inr rfl, .inr rfl, .inl rfl, trivial⟩
set_option maxHeartbeats 4000000 in
set_option maxRecDepth 20000 in
theorem c_X7_number {σ : Mem} {x1 x2 : Int}  {q : (Int × Mem)} (h : f_X7_number σ x1 x2 = some q) : Ms yX7_number M_X7_number 210 210 [(2, (28 : Int)), (0, x1), (0, x2)] rho σ (some (0, q.1), rho, q.2) := by
  refine Ms.of 3 (by decide +kernel) rfl (fun z => absurd z (by decide)) (fun _ _ _ => trivial) rfl rfl ?_
  unfold f_X7_number at h
  show Ev M_X7_number 210 210 _ 0 210 rho σ [(2, (28 : Int)), (0, x1), (0, x2), (9, 0), (9, 0), (9, 0)] []
  refine ev_aload_n dX7_number_0 rfl (by decide) ?_
  obtain ⟨σ1, hc2, h⟩ := bind_of h
  refine ev_invV_n (k := (28 : Int)) (av := []) (st := []) (τ := σ1) dX7_number_1 ml_X7_29 mv_X7_skipBlanks (T := TX7) (ci := 6) rfl sp28 (by decide) (by decide) rfl ⟨Nat.le_of_ble_eq_true rfl, Nat.le_of_ble_eq_true rfl⟩ (Nat.le_of_ble_eq_true rfl) (c_X7_skipBlanks hc2) ?_
  refine ev_aload_n dX7_number_4 rfl (by decide) ?_
  refine ev_aload_n dX7_number_5 rfl (by decide) ?_
  refine ev_getf (j := 2) (t := 0) (x := (σ1 (28 : Int) 2)) dX7_number_6 cf_X7 wf_X7_22 sp28 (by decide) (by decide) rfl (by decide) rfl ?_
  refine ev_putfG (j := 3) (t := 0) dX7_number_9 cf_X7 wf_X7_36 sp28 (by decide) (by decide) rfl (by decide) (by decide) rfl (fun z => absurd z (by decide +kernel)) h (fun σ3 h => ?_)
  refine ev_iconst dX7_number_12 (by decide) ?_
  refine ev_istore_n dX7_number_13 rfl (by decide) ?_
  show Ev _ _ _ _ 14 _ _ _ [(2, (28 : Int)), (0, x1), (0, x2), (0, (0 : Int)), (9, 0), (9, 0)] _
  refine ev_iconst dX7_number_14 (by decide) ?_
  refine ev_istore dX7_number_15 rfl (by decide) ?_
  show Ev _ _ _ _ 17 _ _ _ [(2, (28 : Int)), (0, x1), (0, x2), (0, (0 : Int)), (0, (0 : Int)), (9, 0)] _
  refine ev_iconst dX7_number_17 (by decide) ?_
  show Ev _ _ _ _ 18 _ _ _ _ _
  refine ev_istore dX7_number_18 rfl (by decide) ?_
  show Ev _ _ _ _ 20 _ _ _ [(2, (28 : Int)), (0, x1), (0, x2), (0, (0 : Int)), (0, (0 : Int)), (0, (0 : Int))] _
  exact ev_sub (L2 := [(2, (28 : Int)), (0, x1), (0, x2), (0, (0 : Int)), (0, (0 : Int)), (0, (0 : Int))]) (e_X7_number_20 σ3 x1 x2 (0 : Int) (0 : Int) (0 : Int) h) ⟨.inr rfl, .inr rfl, .inr rfl, .inr rfl, .inr rfl, .inr rfl, trivial⟩
set_option maxHeartbeats 4000000 in
set_option maxRecDepth 20000 in
theorem e_X7_readPaper_54 (σ : Mem) (x2 x3 s0 : Int)  {q : (Int × Mem)} (h : f_X7_readPaper_54 σ x2 x3 s0 = some q) : Ev M_X7_readPaper 210 210 (some (0, q.1), rho, q.2) 54 210 rho σ [(9, 0), (2, (10 : Int)), (0, x2), (0, x3), (9, 0)] [(0, s0)] := by
  unfold f_X7_readPaper_54 at h
  refine ev_istore dX7_readPaper_54 rfl (by decide) ?_
  show Ev _ _ _ _ 56 _ _ _ [(9, 0), (2, (10 : Int)), (0, x2), (0, x3), (0, s0)] _
  refine ev_iload dX7_readPaper_56 rfl ?_
  refine ev_iconst dX7_readPaper_58 (by decide) ?_
  refine ev_icmp_eq (tgt := 78) dX7_readPaper_59 rfl h (fun cb h => ?_) (fun cb h => ?_)
  · refine ev_iconst dX7_readPaper_78 (by decide) ?_
    obtain rfl := Option.some.inj h
    exact ev_zret dX7_readPaper_79 rfl (chk_pos (.inl rfl))
  refine ev_aload_n dX7_readPaper_62 rfl (by decide) ?_
  refine ev_iload_n dX7_readPaper_63 rfl ?_
  refine ev_iload_n dX7_readPaper_64 rfl ?_
  refine ev_iload dX7_readPaper_65 rfl ?_
  obtain ⟨v10, hc11, h⟩ := bind_of h
  refine ev_invV_v (k := (10 : Int)) (av := [(0, x2), (0, x3), (0, s0)]) (st := []) (v := (0, v10.1)) (τ := v10.2) dX7_readPaper_67 ml_X7_100 mv_X0_addPaper (T := TX0) (ci := 0) rfl sp10 (by decide) (by decide) rfl ⟨Nat.le_of_ble_eq_true rfl, Nat.le_of_ble_eq_true rfl⟩ (Nat.le_of_ble_eq_true rfl) (c_X0_addPaper hB10 hc11) ?_
  refine ev_iconst dX7_readPaper_70 (by decide) ?_
  refine ev_icmp_eq (tgt := 78) dX7_readPaper_71 rfl h (fun cb h => ?_) (fun cb h => ?_)
  · refine ev_iconst dX7_readPaper_78 (by decide) ?_
    obtain rfl := Option.some.inj h
    exact ev_zret dX7_readPaper_79 rfl (chk_pos (.inl rfl))
  refine ev_iconst dX7_readPaper_74 (by decide) ?_
  refine ev_goto (tgt := 79) dX7_readPaper_75 rfl ?_
  obtain rfl := Option.some.inj h
  exact ev_zret dX7_readPaper_79 rfl (chk_pos (.inr rfl))
set_option maxHeartbeats 4000000 in
set_option maxRecDepth 20000 in
theorem e_X7_readPaper_37 (σ : Mem) (x2 s0 : Int)  {q : (Int × Mem)} (h : f_X7_readPaper_37 σ x2 s0 = some q) : Ev M_X7_readPaper 210 210 (some (0, q.1), rho, q.2) 37 210 rho σ [(2, (28 : Int)), (2, (10 : Int)), (0, x2), (9, 0), (9, 0)] [(0, s0)] := by
  unfold f_X7_readPaper_37 at h
  refine ev_istore_n dX7_readPaper_37 rfl (by decide) ?_
  show Ev _ _ _ _ 38 _ _ _ [(2, (28 : Int)), (2, (10 : Int)), (0, x2), (0, s0), (9, 0)] _
  refine ev_iload_n dX7_readPaper_38 rfl ?_
  refine ev_iconst dX7_readPaper_39 (by decide) ?_
  refine ev_icmp_ne (tgt := 47) dX7_readPaper_40 rfl h (fun cb h => ?_) (fun cb h => ?_)
  · refine ev_aload_n dX7_readPaper_47 rfl (by decide) ?_
    refine ev_iconst dX7_readPaper_48 (by decide) ?_
    refine ev_bipush dX7_readPaper_49 (by decide) (by decide) ?_
    obtain ⟨v8, hc9, h⟩ := bind_of h
    refine ev_invV_v (k := (28 : Int)) (av := [(0, (1 : Int)), (0, (12 : Int))]) (st := []) (v := (0, v8.1)) (τ := v8.2) dX7_readPaper_51 ml_X7_96 mv_X7_number (T := TX7) (ci := 6) rfl sp28 (by decide) (by decide) rfl ⟨Nat.le_of_ble_eq_true rfl, Nat.le_of_ble_eq_true rfl⟩ (Nat.le_of_ble_eq_true rfl) (c_X7_number hc9) ?_
    exact ev_sub (L2 := [(9, 0), (2, (10 : Int)), (0, x2), (0, s0), (9, 0)]) (e_X7_readPaper_54 v8.2 x2 s0 v8.1 h) ⟨.inl rfl, .inr rfl, .inr rfl, .inr rfl, .inl rfl, trivial⟩
  refine ev_iconst dX7_readPaper_43 (by decide) ?_
  refine ev_goto (tgt := 54) dX7_readPaper_44 rfl ?_
  exact ev_sub (L2 := [(9, 0), (2, (10 : Int)), (0, x2), (0, s0), (9, 0)]) (e_X7_readPaper_54 σ x2 s0 (-1 : Int) h) ⟨.inl rfl, .inr rfl, .inr rfl, .inr rfl, .inl rfl, trivial⟩
set_option maxHeartbeats 4000000 in
set_option maxRecDepth 20000 in
theorem c_X7_readPaper {σ : Mem}  {q : (Int × Mem)} (h : f_X7_readPaper σ  = some q) : Ms yX7_readPaper M_X7_readPaper 210 210 [(2, (28 : Int)), (2, (10 : Int))] rho σ (some (0, q.1), rho, q.2) := by
  refine Ms.of 3 (by decide +kernel) rfl (fun z => absurd z (by decide)) (fun _ _ _ => trivial) rfl rfl ?_
  unfold f_X7_readPaper at h
  show Ev M_X7_readPaper 210 210 _ 0 210 rho σ [(2, (28 : Int)), (2, (10 : Int)), (9, 0), (9, 0), (9, 0)] []
  refine ev_aload_n dX7_readPaper_0 rfl (by decide) ?_
  refine ev_getf (j := 8) (t := 0) (x := (σ (10 : Int) 8)) dX7_readPaper_1 cf_X0 wf_X7_91 sp10 (by decide) (by decide) rfl (by decide) rfl ?_
  refine ev_bipush dX7_readPaper_4 (by decide) (by decide) ?_
  refine ev_icmp_lt (tgt := 14) dX7_readPaper_6 rfl h (fun cb h => ?_) (fun cb h => ?_)
  · refine ev_aload_n dX7_readPaper_14 rfl (by decide) ?_
    refine ev_iconst dX7_readPaper_15 (by decide) ?_
    refine ev_iconst dX7_readPaper_16 (by decide) ?_
    obtain ⟨v1, hc2, h⟩ := bind_of h
    refine ev_invV_v (k := (28 : Int)) (av := [(0, (0 : Int)), (0, (4 : Int))]) (st := []) (v := (0, v1.1)) (τ := v1.2) dX7_readPaper_17 ml_X7_96 mv_X7_number (T := TX7) (ci := 6) rfl sp28 (by decide) (by decide) rfl ⟨Nat.le_of_ble_eq_true rfl, Nat.le_of_ble_eq_true rfl⟩ (Nat.le_of_ble_eq_true rfl) (c_X7_number hc2) ?_
    refine ev_istore_nG dX7_readPaper_20 h rfl (by decide) (fun v3 h => ?_)
    show Ev _ _ _ _ 21 _ _ _ [(2, (28 : Int)), (2, (10 : Int)), (0, v3), (9, 0), (9, 0)] _
    refine ev_iload_n dX7_readPaper_21 rfl ?_
    refine ev_iconst dX7_readPaper_22 (by decide) ?_
    refine ev_icmp_ne (tgt := 30) dX7_readPaper_23 rfl h (fun cb h => ?_) (fun cb h => ?_)
    · refine ev_aload_n dX7_readPaper_30 rfl (by decide) ?_
      refine ev_iconst dX7_readPaper_31 (by decide) ?_
      refine ev_bipush dX7_readPaper_32 (by decide) (by decide) ?_
      obtain ⟨v4, hc5, h⟩ := bind_of h
      refine ev_invV_v (k := (28 : Int)) (av := [(0, (0 : Int)), (0, (47 : Int))]) (st := []) (v := (0, v4.1)) (τ := v4.2) dX7_readPaper_34 ml_X7_96 mv_X7_number (T := TX7) (ci := 6) rfl sp28 (by decide) (by decide) rfl ⟨Nat.le_of_ble_eq_true rfl, Nat.le_of_ble_eq_true rfl⟩ (Nat.le_of_ble_eq_true rfl) (c_X7_number hc5) ?_
      exact ev_sub (L2 := [(2, (28 : Int)), (2, (10 : Int)), (0, v3), (9, 0), (9, 0)]) (e_X7_readPaper_37 v4.2 v3 v4.1 h) ⟨.inr rfl, .inr rfl, .inr rfl, .inl rfl, .inl rfl, trivial⟩
    refine ev_iconst dX7_readPaper_26 (by decide) ?_
    refine ev_goto (tgt := 37) dX7_readPaper_27 rfl ?_
    exact ev_sub (L2 := [(2, (28 : Int)), (2, (10 : Int)), (0, v3), (9, 0), (9, 0)]) (e_X7_readPaper_37 v1.2 v3 (-1 : Int) h) ⟨.inr rfl, .inr rfl, .inr rfl, .inl rfl, .inl rfl, trivial⟩
  refine ev_aload_n dX7_readPaper_9 rfl (by decide) ?_
  obtain ⟨v6, hc7, h⟩ := bind_of h
  refine ev_invV_v (k := (28 : Int)) (av := []) (st := []) (v := (0, v6.1)) (τ := v6.2) dX7_readPaper_10 ml_X7_87 mv_X7_faultHere (T := TX7) (ci := 6) rfl sp28 (by decide) (by decide) rfl ⟨Nat.le_of_ble_eq_true rfl, Nat.le_of_ble_eq_true rfl⟩ (Nat.le_of_ble_eq_true rfl) (c_X7_faultHere hc7) ?_
  obtain ⟨hz, h⟩ := chk_of h
  obtain rfl := Option.some.inj h
  exact ev_zret dX7_readPaper_13 rfl (chk_pos hz)
set_option maxHeartbeats 4000000 in
set_option maxRecDepth 20000 in
theorem e_X7_readCand_37 (σ : Mem) (x2 s0 : Int)  {q : (Int × Mem)} (h : f_X7_readCand_37 σ x2 s0 = some q) : Ev M_X7_readCand 210 210 (some (0, q.1), rho, q.2) 37 210 rho σ [(9, 0), (2, (10 : Int)), (0, x2), (9, 0)] [(0, s0)] := by
  unfold f_X7_readCand_37 at h
  refine ev_istore_n dX7_readCand_37 rfl (by decide) ?_
  show Ev _ _ _ _ 38 _ _ _ [(9, 0), (2, (10 : Int)), (0, x2), (0, s0)] _
  refine ev_iload_n dX7_readCand_38 rfl ?_
  refine ev_iconst dX7_readCand_39 (by decide) ?_
  refine ev_icmp_eq (tgt := 57) dX7_readCand_40 rfl h (fun cb h => ?_) (fun cb h => ?_)
  · refine ev_iconst dX7_readCand_57 (by decide) ?_
    obtain rfl := Option.some.inj h
    exact ev_zret dX7_readCand_58 rfl (chk_pos (.inl rfl))
  refine ev_aload_n dX7_readCand_43 rfl (by decide) ?_
  refine ev_iload_n dX7_readCand_44 rfl ?_
  refine ev_iload_n dX7_readCand_45 rfl ?_
  obtain ⟨v8, hc9, h⟩ := bind_of h
  refine ev_invV_v (k := (10 : Int)) (av := [(0, x2), (0, s0)]) (st := []) (v := (0, v8.1)) (τ := v8.2) dX7_readCand_46 ml_X7_109 mv_X0_addCand (T := TX0) (ci := 0) rfl sp10 (by decide) (by decide) rfl ⟨Nat.le_of_ble_eq_true rfl, Nat.le_of_ble_eq_true rfl⟩ (Nat.le_of_ble_eq_true rfl) (c_X0_addCand hB10 hc9) ?_
  refine ev_iconst dX7_readCand_49 (by decide) ?_
  refine ev_icmp_eq (tgt := 57) dX7_readCand_50 rfl h (fun cb h => ?_) (fun cb h => ?_)
  · refine ev_iconst dX7_readCand_57 (by decide) ?_
    obtain rfl := Option.some.inj h
    exact ev_zret dX7_readCand_58 rfl (chk_pos (.inl rfl))
  refine ev_iconst dX7_readCand_53 (by decide) ?_
  refine ev_goto (tgt := 58) dX7_readCand_54 rfl ?_
  obtain rfl := Option.some.inj h
  exact ev_zret dX7_readCand_58 rfl (chk_pos (.inr rfl))
set_option maxHeartbeats 4000000 in
set_option maxRecDepth 20000 in
theorem c_X7_readCand {σ : Mem}  {q : (Int × Mem)} (h : f_X7_readCand σ  = some q) : Ms yX7_readCand M_X7_readCand 210 210 [(2, (28 : Int)), (2, (10 : Int))] rho σ (some (0, q.1), rho, q.2) := by
  refine Ms.of 2 (by decide +kernel) rfl (fun z => absurd z (by decide)) (fun _ _ _ => trivial) rfl rfl ?_
  unfold f_X7_readCand at h
  show Ev M_X7_readCand 210 210 _ 0 210 rho σ [(2, (28 : Int)), (2, (10 : Int)), (9, 0), (9, 0)] []
  refine ev_aload_n dX7_readCand_0 rfl (by decide) ?_
  refine ev_getf (j := 9) (t := 0) (x := (σ (10 : Int) 9)) dX7_readCand_1 cf_X0 wf_X7_104 sp10 (by decide) (by decide) rfl (by decide) rfl ?_
  refine ev_bipush dX7_readCand_4 (by decide) (by decide) ?_
  refine ev_icmp_lt (tgt := 14) dX7_readCand_6 rfl h (fun cb h => ?_) (fun cb h => ?_)
  · refine ev_aload_n dX7_readCand_14 rfl (by decide) ?_
    refine ev_iconst dX7_readCand_15 (by decide) ?_
    refine ev_iconst dX7_readCand_16 (by decide) ?_
    obtain ⟨v1, hc2, h⟩ := bind_of h
    refine ev_invV_v (k := (28 : Int)) (av := [(0, (0 : Int)), (0, (5 : Int))]) (st := []) (v := (0, v1.1)) (τ := v1.2) dX7_readCand_17 ml_X7_96 mv_X7_number (T := TX7) (ci := 6) rfl sp28 (by decide) (by decide) rfl ⟨Nat.le_of_ble_eq_true rfl, Nat.le_of_ble_eq_true rfl⟩ (Nat.le_of_ble_eq_true rfl) (c_X7_number hc2) ?_
    refine ev_istore_nG dX7_readCand_20 h rfl (by decide) (fun v3 h => ?_)
    show Ev _ _ _ _ 21 _ _ _ [(2, (28 : Int)), (2, (10 : Int)), (0, v3), (9, 0)] _
    refine ev_iload_n dX7_readCand_21 rfl ?_
    refine ev_iconst dX7_readCand_22 (by decide) ?_
    refine ev_icmp_ne (tgt := 30) dX7_readCand_23 rfl h (fun cb h => ?_) (fun cb h => ?_)
    · refine ev_aload_n dX7_readCand_30 rfl (by decide) ?_
      refine ev_iconst dX7_readCand_31 (by decide) ?_
      refine ev_bipush dX7_readCand_32 (by decide) (by decide) ?_
      obtain ⟨v4, hc5, h⟩ := bind_of h
      refine ev_invV_v (k := (28 : Int)) (av := [(0, (0 : Int)), (0, (9 : Int))]) (st := []) (v := (0, v4.1)) (τ := v4.2) dX7_readCand_34 ml_X7_96 mv_X7_number (T := TX7) (ci := 6) rfl sp28 (by decide) (by decide) rfl ⟨Nat.le_of_ble_eq_true rfl, Nat.le_of_ble_eq_true rfl⟩ (Nat.le_of_ble_eq_true rfl) (c_X7_number hc5) ?_
      exact ev_sub (L2 := [(9, 0), (2, (10 : Int)), (0, v3), (9, 0)]) (e_X7_readCand_37 v4.2 v3 v4.1 h) ⟨.inl rfl, .inr rfl, .inr rfl, .inl rfl, trivial⟩
    refine ev_iconst dX7_readCand_26 (by decide) ?_
    refine ev_goto (tgt := 37) dX7_readCand_27 rfl ?_
    exact ev_sub (L2 := [(9, 0), (2, (10 : Int)), (0, v3), (9, 0)]) (e_X7_readCand_37 v1.2 v3 (-1 : Int) h) ⟨.inl rfl, .inr rfl, .inr rfl, .inl rfl, trivial⟩
  refine ev_aload_n dX7_readCand_9 rfl (by decide) ?_
  obtain ⟨v6, hc7, h⟩ := bind_of h
  refine ev_invV_v (k := (28 : Int)) (av := []) (st := []) (v := (0, v6.1)) (τ := v6.2) dX7_readCand_10 ml_X7_87 mv_X7_faultHere (T := TX7) (ci := 6) rfl sp28 (by decide) (by decide) rfl ⟨Nat.le_of_ble_eq_true rfl, Nat.le_of_ble_eq_true rfl⟩ (Nat.le_of_ble_eq_true rfl) (c_X7_faultHere hc7) ?_
  obtain ⟨hz, h⟩ := chk_of h
  obtain rfl := Option.some.inj h
  exact ev_zret dX7_readCand_13 rfl (chk_pos hz)
set_option maxHeartbeats 4000000 in
set_option maxRecDepth 20000 in
theorem e_X7_readTakes_32 (σ : Mem) (x2 s0 : Int)  {q : (Int × Mem)} (h : f_X7_readTakes_32 σ x2 s0 = some q) : Ev M_X7_readTakes 210 210 (some (0, q.1), rho, q.2) 32 210 rho σ [(2, (28 : Int)), (2, (10 : Int)), (0, x2), (9, 0)] [(0, s0)] := by
  unfold f_X7_readTakes_32 at h
  refine ev_istore_n dX7_readTakes_32 rfl (by decide) ?_
  show Ev _ _ _ _ 33 _ _ _ [(2, (28 : Int)), (2, (10 : Int)), (0, x2), (0, s0)] _
  refine ev_iload_n dX7_readTakes_33 rfl ?_
  refine ev_iconst dX7_readTakes_34 (by decide) ?_
  refine ev_icmp_ne (tgt := 40) dX7_readTakes_35 rfl h (fun cb h => ?_) (fun cb h => ?_)
  · refine ev_aload_n dX7_readTakes_40 rfl (by decide) ?_
    refine ev_iload_n dX7_readTakes_41 rfl ?_
    refine ev_iload_n dX7_readTakes_42 rfl ?_
    obtain ⟨v6, hc7, h⟩ := bind_of h
    refine ev_invV_v (k := (10 : Int)) (av := [(0, x2), (0, s0)]) (st := []) (v := (0, v6)) (τ := σ) dX7_readTakes_43 ml_X7_112 mv_X0_doesTake (T := TX0) (ci := 0) rfl sp10 (by decide) (by decide) rfl ⟨Nat.le_of_ble_eq_true rfl, Nat.le_of_ble_eq_true rfl⟩ (Nat.le_of_ble_eq_true rfl) (c_X0_doesTake hB10 hc7) ?_
    refine ev_if_ne (tgt := 69) dX7_readTakes_46 rfl h (fun cb h => ?_) (fun cb h => ?_)
    · refine ev_iconst dX7_readTakes_69 (by decide) ?_
      obtain rfl := Option.some.inj h
      exact ev_zret dX7_readTakes_70 rfl (chk_pos (.inr rfl))
    refine ev_aload_n dX7_readTakes_49 rfl (by decide) ?_
    refine ev_iload_n dX7_readTakes_50 rfl ?_
    refine ev_iload_n dX7_readTakes_51 rfl ?_
    obtain ⟨v8, hc9, h⟩ := bind_of h
    refine ev_invV_v (k := (10 : Int)) (av := [(0, x2), (0, s0)]) (st := []) (v := (0, v8)) (τ := σ) dX7_readTakes_52 ml_X7_116 mv_X0_mayFlip (T := TX0) (ci := 0) rfl sp10 (by decide) (by decide) rfl ⟨Nat.le_of_ble_eq_true rfl, Nat.le_of_ble_eq_true rfl⟩ (Nat.le_of_ble_eq_true rfl) (c_X0_mayFlip hB10 hc9) ?_
    refine ev_if_ne (tgt := 63) dX7_readTakes_55 rfl h (fun cb h => ?_) (fun cb h => ?_)
    · refine ev_aload_n dX7_readTakes_63 rfl (by decide) ?_
      refine ev_iload_n dX7_readTakes_64 rfl ?_
      refine ev_iload_n dX7_readTakes_65 rfl ?_
      obtain ⟨σ10, hc11, h⟩ := bind_of h
      refine ev_invV_n (k := (10 : Int)) (av := [(0, x2), (0, s0)]) (st := []) (τ := σ10) dX7_readTakes_66 ml_X7_119 mv_X0_flip (T := TX0) (ci := 0) rfl sp10 (by decide) (by decide) rfl ⟨Nat.le_of_ble_eq_true rfl, Nat.le_of_ble_eq_true rfl⟩ (Nat.le_of_ble_eq_true rfl) (c_X0_flip hB10 hc11) ?_
      refine ev_iconst dX7_readTakes_69 (by decide) ?_
      obtain rfl := Option.some.inj h
      exact ev_zret dX7_readTakes_70 rfl (chk_pos (.inr rfl))
    refine ev_aload_n dX7_readTakes_58 rfl (by decide) ?_
    obtain ⟨v12, hc13, h⟩ := bind_of h
    refine ev_invV_v (k := (28 : Int)) (av := []) (st := []) (v := (0, v12.1)) (τ := v12.2) dX7_readTakes_59 ml_X7_87 mv_X7_faultHere (T := TX7) (ci := 6) rfl sp28 (by decide) (by decide) rfl ⟨Nat.le_of_ble_eq_true rfl, Nat.le_of_ble_eq_true rfl⟩ (Nat.le_of_ble_eq_true rfl) (c_X7_faultHere hc13) ?_
    obtain ⟨hz, h⟩ := chk_of h
    obtain rfl := Option.some.inj h
    exact ev_zret dX7_readTakes_62 rfl (chk_pos hz)
  refine ev_iconst dX7_readTakes_38 (by decide) ?_
  obtain rfl := Option.some.inj h
  exact ev_zret dX7_readTakes_39 rfl (chk_pos (.inl rfl))
set_option maxHeartbeats 4000000 in
set_option maxRecDepth 20000 in
theorem c_X7_readTakes {σ : Mem}  {q : (Int × Mem)} (h : f_X7_readTakes σ  = some q) : Ms yX7_readTakes M_X7_readTakes 210 210 [(2, (28 : Int)), (2, (10 : Int))] rho σ (some (0, q.1), rho, q.2) := by
  refine Ms.of 2 (by decide +kernel) rfl (fun z => absurd z (by decide)) (fun _ _ _ => trivial) rfl rfl ?_
  unfold f_X7_readTakes at h
  show Ev M_X7_readTakes 210 210 _ 0 210 rho σ [(2, (28 : Int)), (2, (10 : Int)), (9, 0), (9, 0)] []
  refine ev_aload_n dX7_readTakes_0 rfl (by decide) ?_
  refine ev_iconst dX7_readTakes_1 (by decide) ?_
  refine ev_aload_n dX7_readTakes_2 rfl (by decide) ?_
  refine ev_getf (j := 9) (t := 0) (x := (σ (10 : Int) 9)) dX7_readTakes_3 cf_X0 wf_X7_104 sp10 (by decide) (by decide) rfl (by decide) rfl ?_
  refine ev_iconst dX7_readTakes_6 (by decide) ?_
  refine ev_isub dX7_readTakes_7 ?_
  obtain ⟨v1, hc2, h⟩ := bind_of h
  refine ev_invV_v (k := (28 : Int)) (av := [(0, (0 : Int)), (0, (jsub (σ (10 : Int) 9) (1 : Int)))]) (st := []) (v := (0, v1.1)) (τ := v1.2) dX7_readTakes_8 ml_X7_96 mv_X7_number (T := TX7) (ci := 6) rfl sp28 (by decide) (by decide) rfl ⟨Nat.le_of_ble_eq_true rfl, Nat.le_of_ble_eq_true rfl⟩ (Nat.le_of_ble_eq_true rfl) (c_X7_number hc2) ?_
  refine ev_istore_nG dX7_readTakes_11 h rfl (by decide) (fun v3 h => ?_)
  show Ev _ _ _ _ 12 _ _ _ [(2, (28 : Int)), (2, (10 : Int)), (0, v3), (9, 0)] _
  refine ev_iload_n dX7_readTakes_12 rfl ?_
  refine ev_iconst dX7_readTakes_13 (by decide) ?_
  refine ev_icmp_ne (tgt := 21) dX7_readTakes_14 rfl h (fun cb h => ?_) (fun cb h => ?_)
  · refine ev_aload_n dX7_readTakes_21 rfl (by decide) ?_
    refine ev_iconst dX7_readTakes_22 (by decide) ?_
    refine ev_aload_n dX7_readTakes_23 rfl (by decide) ?_
    refine ev_getf (j := 8) (t := 0) (x := (v1.2 (10 : Int) 8)) dX7_readTakes_24 cf_X0 wf_X7_91 sp10 (by decide) (by decide) rfl (by decide) rfl ?_
    refine ev_iconst dX7_readTakes_27 (by decide) ?_
    refine ev_isub dX7_readTakes_28 ?_
    obtain ⟨v4, hc5, h⟩ := bind_of h
    refine ev_invV_v (k := (28 : Int)) (av := [(0, (0 : Int)), (0, (jsub (v1.2 (10 : Int) 8) (1 : Int)))]) (st := []) (v := (0, v4.1)) (τ := v4.2) dX7_readTakes_29 ml_X7_96 mv_X7_number (T := TX7) (ci := 6) rfl sp28 (by decide) (by decide) rfl ⟨Nat.le_of_ble_eq_true rfl, Nat.le_of_ble_eq_true rfl⟩ (Nat.le_of_ble_eq_true rfl) (c_X7_number hc5) ?_
    exact ev_sub (L2 := [(2, (28 : Int)), (2, (10 : Int)), (0, v3), (9, 0)]) (e_X7_readTakes_32 v4.2 v3 v4.1 h) ⟨.inr rfl, .inr rfl, .inr rfl, .inl rfl, trivial⟩
  refine ev_iconst dX7_readTakes_17 (by decide) ?_
  refine ev_goto (tgt := 32) dX7_readTakes_18 rfl ?_
  exact ev_sub (L2 := [(2, (28 : Int)), (2, (10 : Int)), (0, v3), (9, 0)]) (e_X7_readTakes_32 v1.2 v3 (-1 : Int) h) ⟨.inr rfl, .inr rfl, .inr rfl, .inl rfl, trivial⟩
set_option maxHeartbeats 4000000 in
set_option maxRecDepth 20000 in
theorem e_X7_readDrops_32 (σ : Mem) (x2 s0 : Int)  {q : (Int × Mem)} (h : f_X7_readDrops_32 σ x2 s0 = some q) : Ev M_X7_readDrops 210 210 (some (0, q.1), rho, q.2) 32 210 rho σ [(9, 0), (2, (10 : Int)), (0, x2), (9, 0)] [(0, s0)] := by
  unfold f_X7_readDrops_32 at h
  refine ev_istore_n dX7_readDrops_32 rfl (by decide) ?_
  show Ev _ _ _ _ 33 _ _ _ [(9, 0), (2, (10 : Int)), (0, x2), (0, s0)] _
  refine ev_iload_n dX7_readDrops_33 rfl ?_
  refine ev_iconst dX7_readDrops_34 (by decide) ?_
  refine ev_icmp_ne (tgt := 40) dX7_readDrops_35 rfl h (fun cb h => ?_) (fun cb h => ?_)
  · refine ev_aload_n dX7_readDrops_40 rfl (by decide) ?_
    refine ev_iload_n dX7_readDrops_41 rfl ?_
    refine ev_iload_n dX7_readDrops_42 rfl ?_
    obtain ⟨v6, hc7, h⟩ := bind_of h
    refine ev_invV_v (k := (10 : Int)) (av := [(0, x2), (0, s0)]) (st := []) (v := (0, v6)) (τ := σ) dX7_readDrops_43 ml_X7_112 mv_X0_doesTake (T := TX0) (ci := 0) rfl sp10 (by decide) (by decide) rfl ⟨Nat.le_of_ble_eq_true rfl, Nat.le_of_ble_eq_true rfl⟩ (Nat.le_of_ble_eq_true rfl) (c_X0_doesTake hB10 hc7) ?_
    refine ev_if_eq (tgt := 55) dX7_readDrops_46 rfl h (fun cb h => ?_) (fun cb h => ?_)
    · refine ev_iconst dX7_readDrops_55 (by decide) ?_
      obtain rfl := Option.some.inj h
      exact ev_zret dX7_readDrops_56 rfl (chk_pos (.inr rfl))
    refine ev_aload_n dX7_readDrops_49 rfl (by decide) ?_
    refine ev_iload_n dX7_readDrops_50 rfl ?_
    refine ev_iload_n dX7_readDrops_51 rfl ?_
    obtain ⟨σ8, hc9, h⟩ := bind_of h
    refine ev_invV_n (k := (10 : Int)) (av := [(0, x2), (0, s0)]) (st := []) (τ := σ8) dX7_readDrops_52 ml_X7_119 mv_X0_flip (T := TX0) (ci := 0) rfl sp10 (by decide) (by decide) rfl ⟨Nat.le_of_ble_eq_true rfl, Nat.le_of_ble_eq_true rfl⟩ (Nat.le_of_ble_eq_true rfl) (c_X0_flip hB10 hc9) ?_
    refine ev_iconst dX7_readDrops_55 (by decide) ?_
    obtain rfl := Option.some.inj h
    exact ev_zret dX7_readDrops_56 rfl (chk_pos (.inr rfl))
  refine ev_iconst dX7_readDrops_38 (by decide) ?_
  obtain rfl := Option.some.inj h
  exact ev_zret dX7_readDrops_39 rfl (chk_pos (.inl rfl))
set_option maxHeartbeats 4000000 in
set_option maxRecDepth 20000 in
theorem c_X7_readDrops {σ : Mem}  {q : (Int × Mem)} (h : f_X7_readDrops σ  = some q) : Ms yX7_readDrops M_X7_readDrops 210 210 [(2, (28 : Int)), (2, (10 : Int))] rho σ (some (0, q.1), rho, q.2) := by
  refine Ms.of 2 (by decide +kernel) rfl (fun z => absurd z (by decide)) (fun _ _ _ => trivial) rfl rfl ?_
  unfold f_X7_readDrops at h
  show Ev M_X7_readDrops 210 210 _ 0 210 rho σ [(2, (28 : Int)), (2, (10 : Int)), (9, 0), (9, 0)] []
  refine ev_aload_n dX7_readDrops_0 rfl (by decide) ?_
  refine ev_iconst dX7_readDrops_1 (by decide) ?_
  refine ev_aload_n dX7_readDrops_2 rfl (by decide) ?_
  refine ev_getf (j := 9) (t := 0) (x := (σ (10 : Int) 9)) dX7_readDrops_3 cf_X0 wf_X7_104 sp10 (by decide) (by decide) rfl (by decide) rfl ?_
  refine ev_iconst dX7_readDrops_6 (by decide) ?_
  refine ev_isub dX7_readDrops_7 ?_
  obtain ⟨v1, hc2, h⟩ := bind_of h
  refine ev_invV_v (k := (28 : Int)) (av := [(0, (0 : Int)), (0, (jsub (σ (10 : Int) 9) (1 : Int)))]) (st := []) (v := (0, v1.1)) (τ := v1.2) dX7_readDrops_8 ml_X7_96 mv_X7_number (T := TX7) (ci := 6) rfl sp28 (by decide) (by decide) rfl ⟨Nat.le_of_ble_eq_true rfl, Nat.le_of_ble_eq_true rfl⟩ (Nat.le_of_ble_eq_true rfl) (c_X7_number hc2) ?_
  refine ev_istore_nG dX7_readDrops_11 h rfl (by decide) (fun v3 h => ?_)
  show Ev _ _ _ _ 12 _ _ _ [(2, (28 : Int)), (2, (10 : Int)), (0, v3), (9, 0)] _
  refine ev_iload_n dX7_readDrops_12 rfl ?_
  refine ev_iconst dX7_readDrops_13 (by decide) ?_
  refine ev_icmp_ne (tgt := 21) dX7_readDrops_14 rfl h (fun cb h => ?_) (fun cb h => ?_)
  · refine ev_aload_n dX7_readDrops_21 rfl (by decide) ?_
    refine ev_iconst dX7_readDrops_22 (by decide) ?_
    refine ev_aload_n dX7_readDrops_23 rfl (by decide) ?_
    refine ev_getf (j := 8) (t := 0) (x := (v1.2 (10 : Int) 8)) dX7_readDrops_24 cf_X0 wf_X7_91 sp10 (by decide) (by decide) rfl (by decide) rfl ?_
    refine ev_iconst dX7_readDrops_27 (by decide) ?_
    refine ev_isub dX7_readDrops_28 ?_
    obtain ⟨v4, hc5, h⟩ := bind_of h
    refine ev_invV_v (k := (28 : Int)) (av := [(0, (0 : Int)), (0, (jsub (v1.2 (10 : Int) 8) (1 : Int)))]) (st := []) (v := (0, v4.1)) (τ := v4.2) dX7_readDrops_29 ml_X7_96 mv_X7_number (T := TX7) (ci := 6) rfl sp28 (by decide) (by decide) rfl ⟨Nat.le_of_ble_eq_true rfl, Nat.le_of_ble_eq_true rfl⟩ (Nat.le_of_ble_eq_true rfl) (c_X7_number hc5) ?_
    exact ev_sub (L2 := [(9, 0), (2, (10 : Int)), (0, v3), (9, 0)]) (e_X7_readDrops_32 v4.2 v3 v4.1 h) ⟨.inl rfl, .inr rfl, .inr rfl, .inl rfl, trivial⟩
  refine ev_iconst dX7_readDrops_17 (by decide) ?_
  refine ev_goto (tgt := 32) dX7_readDrops_18 rfl ?_
  exact ev_sub (L2 := [(9, 0), (2, (10 : Int)), (0, v3), (9, 0)]) (e_X7_readDrops_32 v1.2 v3 (-1 : Int) h) ⟨.inl rfl, .inr rfl, .inr rfl, .inl rfl, trivial⟩
set_option maxHeartbeats 4000000 in
set_option maxRecDepth 20000 in
theorem c_X7_readNight {σ : Mem}  {q : (Int × Mem)} (h : f_X7_readNight σ  = some q) : Ms yX7_readNight M_X7_readNight 210 210 [(2, (28 : Int)), (2, (10 : Int))] rho σ (some (0, q.1), rho, q.2) := by
  refine Ms.of 1 (by decide +kernel) rfl (fun z => absurd z (by decide)) (fun _ _ _ => trivial) rfl rfl ?_
  unfold f_X7_readNight at h
  show Ev M_X7_readNight 210 210 _ 0 210 rho σ [(2, (28 : Int)), (2, (10 : Int)), (9, 0)] []
  refine ev_aload_n dX7_readNight_0 rfl (by decide) ?_
  refine ev_iconst dX7_readNight_1 (by decide) ?_
  refine ev_aload_n dX7_readNight_2 rfl (by decide) ?_
  refine ev_getf (j := 9) (t := 0) (x := (σ (10 : Int) 9)) dX7_readNight_3 cf_X0 wf_X7_104 sp10 (by decide) (by decide) rfl (by decide) rfl ?_
  refine ev_iconst dX7_readNight_6 (by decide) ?_
  refine ev_isub dX7_readNight_7 ?_
  obtain ⟨v1, hc2, h⟩ := bind_of h
  refine ev_invV_v (k := (28 : Int)) (av := [(0, (0 : Int)), (0, (jsub (σ (10 : Int) 9) (1 : Int)))]) (st := []) (v := (0, v1.1)) (τ := v1.2) dX7_readNight_8 ml_X7_96 mv_X7_number (T := TX7) (ci := 6) rfl sp28 (by decide) (by decide) rfl ⟨Nat.le_of_ble_eq_true rfl, Nat.le_of_ble_eq_true rfl⟩ (Nat.le_of_ble_eq_true rfl) (c_X7_number hc2) ?_
  refine ev_istore_nG dX7_readNight_11 h rfl (by decide) (fun v3 h => ?_)
  show Ev _ _ _ _ 12 _ _ _ [(2, (28 : Int)), (2, (10 : Int)), (0, v3)] _
  refine ev_iload_n dX7_readNight_12 rfl ?_
  refine ev_iconst dX7_readNight_13 (by decide) ?_
  refine ev_icmp_ne (tgt := 19) dX7_readNight_14 rfl h (fun cb h => ?_) (fun cb h => ?_)
  · refine ev_aload_n dX7_readNight_19 rfl (by decide) ?_
    refine ev_getf (j := 5) (t := 2) (x := (16 : Int)) dX7_readNight_20 cf_X0 wf_X7_123 sp10 (by decide) (by decide) rfl (by decide) (rp10_5 _) ?_
    refine ev_iload_n dX7_readNight_23 rfl ?_
    refine ev_iconst dX7_readNight_24 (by decide) ?_
    refine ev_iastG dX7_readNight_25 sp16 (by decide) (by decide) h (fun σ4 h => ?_)
    refine ev_iconst dX7_readNight_26 (by decide) ?_
    obtain rfl := Option.some.inj h
    exact ev_zret dX7_readNight_27 rfl (chk_pos (.inr rfl))
  refine ev_iconst dX7_readNight_17 (by decide) ?_
  obtain rfl := Option.some.inj h
  exact ev_zret dX7_readNight_18 rfl (chk_pos (.inl rfl))
set_option maxHeartbeats 4000000 in
set_option maxRecDepth 20000 in
theorem c_X7_readRoom {σ : Mem}  {q : (Int × Mem)} (h : f_X7_readRoom σ  = some q) : Ms yX7_readRoom M_X7_readRoom 210 210 [(2, (28 : Int)), (2, (10 : Int))] rho σ (some (0, q.1), rho, q.2) := by
  refine Ms.of 1 (by decide +kernel) rfl (fun z => absurd z (by decide)) (fun _ _ _ => trivial) rfl rfl ?_
  unfold f_X7_readRoom at h
  show Ev M_X7_readRoom 210 210 _ 0 210 rho σ [(2, (28 : Int)), (2, (10 : Int)), (9, 0)] []
  refine ev_aload_n dX7_readRoom_0 rfl (by decide) ?_
  refine ev_getf (j := 10) (t := 0) (x := (σ (10 : Int) 10)) dX7_readRoom_1 cf_X0 wf_X7_126 sp10 (by decide) (by decide) rfl (by decide) rfl ?_
  refine ev_bipush dX7_readRoom_4 (by decide) (by decide) ?_
  refine ev_icmp_lt (tgt := 14) dX7_readRoom_6 rfl h (fun cb h => ?_) (fun cb h => ?_)
  · refine ev_aload_n dX7_readRoom_14 rfl (by decide) ?_
    refine ev_iconst dX7_readRoom_15 (by decide) ?_
    refine ev_bipush dX7_readRoom_16 (by decide) (by decide) ?_
    obtain ⟨v1, hc2, h⟩ := bind_of h
    refine ev_invV_v (k := (28 : Int)) (av := [(0, (1 : Int)), (0, (9 : Int))]) (st := []) (v := (0, v1.1)) (τ := v1.2) dX7_readRoom_18 ml_X7_96 mv_X7_number (T := TX7) (ci := 6) rfl sp28 (by decide) (by decide) rfl ⟨Nat.le_of_ble_eq_true rfl, Nat.le_of_ble_eq_true rfl⟩ (Nat.le_of_ble_eq_true rfl) (c_X7_number hc2) ?_
    refine ev_istore_nG dX7_readRoom_21 h rfl (by decide) (fun v3 h => ?_)
    show Ev _ _ _ _ 22 _ _ _ [(2, (28 : Int)), (2, (10 : Int)), (0, v3)] _
    refine ev_iload_n dX7_readRoom_22 rfl ?_
    refine ev_iconst dX7_readRoom_23 (by decide) ?_
    refine ev_icmp_eq (tgt := 40) dX7_readRoom_24 rfl h (fun cb h => ?_) (fun cb h => ?_)
    · refine ev_iconst dX7_readRoom_40 (by decide) ?_
      obtain rfl := Option.some.inj h
      exact ev_zret dX7_readRoom_41 rfl (chk_pos (.inl rfl))
    refine ev_aload_n dX7_readRoom_27 rfl (by decide) ?_
    refine ev_iload_n dX7_readRoom_28 rfl ?_
    obtain ⟨v4, hc5, h⟩ := bind_of h
    refine ev_invV_v (k := (10 : Int)) (av := [(0, v3)]) (st := []) (v := (0, v4.1)) (τ := v4.2) dX7_readRoom_29 ml_X7_129 mv_X0_addRoom (T := TX0) (ci := 0) rfl sp10 (by decide) (by decide) rfl ⟨Nat.le_of_ble_eq_true rfl, Nat.le_of_ble_eq_true rfl⟩ (Nat.le_of_ble_eq_true rfl) (c_X0_addRoom hB10 hc5) ?_
    refine ev_iconst dX7_readRoom_32 (by decide) ?_
    refine ev_icmp_eq (tgt := 40) dX7_readRoom_33 rfl h (fun cb h => ?_) (fun cb h => ?_)
    · refine ev_iconst dX7_readRoom_40 (by decide) ?_
      obtain rfl := Option.some.inj h
      exact ev_zret dX7_readRoom_41 rfl (chk_pos (.inl rfl))
    refine ev_iconst dX7_readRoom_36 (by decide) ?_
    refine ev_goto (tgt := 41) dX7_readRoom_37 rfl ?_
    obtain rfl := Option.some.inj h
    exact ev_zret dX7_readRoom_41 rfl (chk_pos (.inr rfl))
  refine ev_aload_n dX7_readRoom_9 rfl (by decide) ?_
  obtain ⟨v6, hc7, h⟩ := bind_of h
  refine ev_invV_v (k := (28 : Int)) (av := []) (st := []) (v := (0, v6.1)) (τ := v6.2) dX7_readRoom_10 ml_X7_87 mv_X7_faultHere (T := TX7) (ci := 6) rfl sp28 (by decide) (by decide) rfl ⟨Nat.le_of_ble_eq_true rfl, Nat.le_of_ble_eq_true rfl⟩ (Nat.le_of_ble_eq_true rfl) (c_X7_faultHere hc7) ?_
  obtain ⟨hz, h⟩ := chk_of h
  obtain rfl := Option.some.inj h
  exact ev_zret dX7_readRoom_13 rfl (chk_pos hz)
set_option maxHeartbeats 4000000 in
set_option maxRecDepth 20000 in
theorem c_X7_readHours {σ : Mem}  {q : (Int × Mem)} (h : f_X7_readHours σ  = some q) : Ms yX7_readHours M_X7_readHours 210 210 [(2, (28 : Int)), (2, (10 : Int))] rho σ (some (0, q.1), rho, q.2) := by
  refine Ms.of 1 (by decide +kernel) rfl (fun z => absurd z (by decide)) (fun _ _ _ => trivial) rfl rfl ?_
  unfold f_X7_readHours at h
  show Ev M_X7_readHours 210 210 _ 0 210 rho σ [(2, (28 : Int)), (2, (10 : Int)), (9, 0)] []
  refine ev_aload_n dX7_readHours_0 rfl (by decide) ?_
  refine ev_bipush dX7_readHours_1 (by decide) (by decide) ?_
  refine ev_bipush dX7_readHours_3 (by decide) (by decide) ?_
  obtain ⟨v1, hc2, h⟩ := bind_of h
  refine ev_invV_v (k := (28 : Int)) (av := [(0, (8 : Int)), (0, (40 : Int))]) (st := []) (v := (0, v1.1)) (τ := v1.2) dX7_readHours_5 ml_X7_96 mv_X7_number (T := TX7) (ci := 6) rfl sp28 (by decide) (by decide) rfl ⟨Nat.le_of_ble_eq_true rfl, Nat.le_of_ble_eq_true rfl⟩ (Nat.le_of_ble_eq_true rfl) (c_X7_number hc2) ?_
  refine ev_istore_nG dX7_readHours_8 h rfl (by decide) (fun v3 h => ?_)
  show Ev _ _ _ _ 9 _ _ _ [(2, (28 : Int)), (2, (10 : Int)), (0, v3)] _
  refine ev_iload_n dX7_readHours_9 rfl ?_
  refine ev_iconst dX7_readHours_10 (by decide) ?_
  refine ev_icmp_ne (tgt := 16) dX7_readHours_11 rfl h (fun cb h => ?_) (fun cb h => ?_)
  · refine ev_aload_n dX7_readHours_16 rfl (by decide) ?_
    refine ev_iload_n dX7_readHours_17 rfl ?_
    refine ev_putfG (j := 11) (t := 0) dX7_readHours_18 cf_X0 wf_X7_132 sp10 (by decide) (by decide) rfl (by decide) (by decide) rfl (fun z => absurd z (by decide +kernel)) h (fun σ4 h => ?_)
    refine ev_iconst dX7_readHours_21 (by decide) ?_
    obtain rfl := Option.some.inj h
    exact ev_zret dX7_readHours_22 rfl (chk_pos (.inr rfl))
  refine ev_iconst dX7_readHours_14 (by decide) ?_
  obtain rfl := Option.some.inj h
  exact ev_zret dX7_readHours_15 rfl (chk_pos (.inl rfl))
set_option maxHeartbeats 4000000 in
set_option maxRecDepth 20000 in
theorem c_X7_readTurn {σ : Mem}  {q : (Int × Mem)} (h : f_X7_readTurn σ  = some q) : Ms yX7_readTurn M_X7_readTurn 210 210 [(2, (28 : Int)), (2, (10 : Int))] rho σ (some (0, q.1), rho, q.2) := by
  refine Ms.of 1 (by decide +kernel) rfl (fun z => absurd z (by decide)) (fun _ _ _ => trivial) rfl rfl ?_
  unfold f_X7_readTurn at h
  show Ev M_X7_readTurn 210 210 _ 0 210 rho σ [(2, (28 : Int)), (2, (10 : Int)), (9, 0)] []
  refine ev_aload_n dX7_readTurn_0 rfl (by decide) ?_
  refine ev_iconst dX7_readTurn_1 (by decide) ?_
  refine ev_bipush dX7_readTurn_2 (by decide) (by decide) ?_
  obtain ⟨v1, hc2, h⟩ := bind_of h
  refine ev_invV_v (k := (28 : Int)) (av := [(0, (0 : Int)), (0, (8 : Int))]) (st := []) (v := (0, v1.1)) (τ := v1.2) dX7_readTurn_4 ml_X7_96 mv_X7_number (T := TX7) (ci := 6) rfl sp28 (by decide) (by decide) rfl ⟨Nat.le_of_ble_eq_true rfl, Nat.le_of_ble_eq_true rfl⟩ (Nat.le_of_ble_eq_true rfl) (c_X7_number hc2) ?_
  refine ev_istore_nG dX7_readTurn_7 h rfl (by decide) (fun v3 h => ?_)
  show Ev _ _ _ _ 8 _ _ _ [(2, (28 : Int)), (2, (10 : Int)), (0, v3)] _
  refine ev_iload_n dX7_readTurn_8 rfl ?_
  refine ev_iconst dX7_readTurn_9 (by decide) ?_
  refine ev_icmp_ne (tgt := 15) dX7_readTurn_10 rfl h (fun cb h => ?_) (fun cb h => ?_)
  · refine ev_aload_n dX7_readTurn_15 rfl (by decide) ?_
    refine ev_iload_n dX7_readTurn_16 rfl ?_
    refine ev_putfG (j := 12) (t := 0) dX7_readTurn_17 cf_X0 wf_X7_134 sp10 (by decide) (by decide) rfl (by decide) (by decide) rfl (fun z => absurd z (by decide +kernel)) h (fun σ4 h => ?_)
    refine ev_iconst dX7_readTurn_20 (by decide) ?_
    obtain rfl := Option.some.inj h
    exact ev_zret dX7_readTurn_21 rfl (chk_pos (.inr rfl))
  refine ev_iconst dX7_readTurn_13 (by decide) ?_
  obtain rfl := Option.some.inj h
  exact ev_zret dX7_readTurn_14 rfl (chk_pos (.inl rfl))
def K_X7_statement_14 (r : Option V × Mem × Mem) : (Int × Mem) ⊕ ((Mem)) → Prop := Sum.elim (fun a => Ev M_X7_statement 210 210 r 14 210 rho a.2 [(2, (28 : Int)), (2, (10 : Int)), (0, a.1)] []) (fun e => Ev M_X7_statement 210 210 r 51 210 rho e [(2, (28 : Int)), (2, (10 : Int)), (9, 0)] [])
set_option maxHeartbeats 4000000 in
set_option maxRecDepth 20000 in
theorem e_X7_statement_51 (σ : Mem)  {q : (Int × Mem)} (h : f_X7_statement_51 σ  = some q) : Ev M_X7_statement 210 210 (some (0, q.1), rho, q.2) 51 210 rho σ [(2, (28 : Int)), (2, (10 : Int)), (9, 0)] [] := by
  unfold f_X7_statement_51 at h
  refine ev_aload_n dX7_statement_51 rfl (by decide) ?_
  refine ev_ldcS (i := 0) dX7_statement_52 rfl (by decide) rfl ?_
  obtain ⟨v10, hc11, h⟩ := bind_of h
  refine ev_invV_v (k := (28 : Int)) (av := [(3, (0 : Int))]) (st := []) (v := (0, v10)) (τ := σ) dX7_statement_54 ml_X7_45 mv_X7_isWord (T := TX7) (ci := 6) rfl sp28 (by decide) (by decide) rfl ⟨Nat.le_of_ble_eq_true rfl, Nat.le_of_ble_eq_true rfl⟩ (Nat.le_of_ble_eq_true rfl) (c_X7_isWord hS0 hc11) ?_
  refine ev_if_eq (tgt := 66) dX7_statement_57 rfl h (fun cb h => ?_) (fun cb h => ?_)
  · refine ev_aload_n dX7_statement_66 rfl (by decide) ?_
    refine ev_ldcS (i := 1) dX7_statement_67 rfl (by decide) rfl ?_
    obtain ⟨v12, hc13, h⟩ := bind_of h
    refine ev_invV_v (k := (28 : Int)) (av := [(3, (1 : Int))]) (st := []) (v := (0, v12)) (τ := σ) dX7_statement_69 ml_X7_45 mv_X7_isWord (T := TX7) (ci := 6) rfl sp28 (by decide) (by decide) rfl ⟨Nat.le_of_ble_eq_true rfl, Nat.le_of_ble_eq_true rfl⟩ (Nat.le_of_ble_eq_true rfl) (c_X7_isWord hS1 hc13) ?_
    refine ev_if_eq (tgt := 81) dX7_statement_72 rfl h (fun cb h => ?_) (fun cb h => ?_)
    · refine ev_aload_n dX7_statement_81 rfl (by decide) ?_
      refine ev_ldcS (i := 2) dX7_statement_82 rfl (by decide) rfl ?_
      obtain ⟨v14, hc15, h⟩ := bind_of h
      refine ev_invV_v (k := (28 : Int)) (av := [(3, (2 : Int))]) (st := []) (v := (0, v14)) (τ := σ) dX7_statement_84 ml_X7_45 mv_X7_isWord (T := TX7) (ci := 6) rfl sp28 (by decide) (by decide) rfl ⟨Nat.le_of_ble_eq_true rfl, Nat.le_of_ble_eq_true rfl⟩ (Nat.le_of_ble_eq_true rfl) (c_X7_isWord hS2 hc15) ?_
      refine ev_if_eq (tgt := 96) dX7_statement_87 rfl h (fun cb h => ?_) (fun cb h => ?_)
      · refine ev_aload_n dX7_statement_96 rfl (by decide) ?_
        refine ev_ldcS (i := 3) dX7_statement_97 rfl (by decide) rfl ?_
        obtain ⟨v16, hc17, h⟩ := bind_of h
        refine ev_invV_v (k := (28 : Int)) (av := [(3, (3 : Int))]) (st := []) (v := (0, v16)) (τ := σ) dX7_statement_99 ml_X7_45 mv_X7_isWord (T := TX7) (ci := 6) rfl sp28 (by decide) (by decide) rfl ⟨Nat.le_of_ble_eq_true rfl, Nat.le_of_ble_eq_true rfl⟩ (Nat.le_of_ble_eq_true rfl) (c_X7_isWord hS3 hc17) ?_
        refine ev_if_eq (tgt := 111) dX7_statement_102 rfl h (fun cb h => ?_) (fun cb h => ?_)
        · refine ev_aload_n dX7_statement_111 rfl (by decide) ?_
          refine ev_ldcS (i := 4) dX7_statement_112 rfl (by decide) rfl ?_
          obtain ⟨v18, hc19, h⟩ := bind_of h
          refine ev_invV_v (k := (28 : Int)) (av := [(3, (4 : Int))]) (st := []) (v := (0, v18)) (τ := σ) dX7_statement_114 ml_X7_45 mv_X7_isWord (T := TX7) (ci := 6) rfl sp28 (by decide) (by decide) rfl ⟨Nat.le_of_ble_eq_true rfl, Nat.le_of_ble_eq_true rfl⟩ (Nat.le_of_ble_eq_true rfl) (c_X7_isWord hS4 hc19) ?_
          refine ev_if_eq (tgt := 126) dX7_statement_117 rfl h (fun cb h => ?_) (fun cb h => ?_)
          · refine ev_aload_n dX7_statement_126 rfl (by decide) ?_
            refine ev_ldcS (i := 5) dX7_statement_127 rfl (by decide) rfl ?_
            obtain ⟨v20, hc21, h⟩ := bind_of h
            refine ev_invV_v (k := (28 : Int)) (av := [(3, (5 : Int))]) (st := []) (v := (0, v20)) (τ := σ) dX7_statement_129 ml_X7_45 mv_X7_isWord (T := TX7) (ci := 6) rfl sp28 (by decide) (by decide) rfl ⟨Nat.le_of_ble_eq_true rfl, Nat.le_of_ble_eq_true rfl⟩ (Nat.le_of_ble_eq_true rfl) (c_X7_isWord hS5 hc21) ?_
            refine ev_if_eq (tgt := 141) dX7_statement_132 rfl h (fun cb h => ?_) (fun cb h => ?_)
            · refine ev_aload_n dX7_statement_141 rfl (by decide) ?_
              refine ev_ldcS (i := 6) dX7_statement_142 rfl (by decide) rfl ?_
              obtain ⟨v22, hc23, h⟩ := bind_of h
              refine ev_invV_v (k := (28 : Int)) (av := [(3, (6 : Int))]) (st := []) (v := (0, v22)) (τ := σ) dX7_statement_144 ml_X7_45 mv_X7_isWord (T := TX7) (ci := 6) rfl sp28 (by decide) (by decide) rfl ⟨Nat.le_of_ble_eq_true rfl, Nat.le_of_ble_eq_true rfl⟩ (Nat.le_of_ble_eq_true rfl) (c_X7_isWord hS6 hc23) ?_
              refine ev_if_eq (tgt := 156) dX7_statement_147 rfl h (fun cb h => ?_) (fun cb h => ?_)
              · refine ev_aload_n dX7_statement_156 rfl (by decide) ?_
                refine ev_ldcS (i := 7) dX7_statement_157 rfl (by decide) rfl ?_
                obtain ⟨v24, hc25, h⟩ := bind_of h
                refine ev_invV_v (k := (28 : Int)) (av := [(3, (7 : Int))]) (st := []) (v := (0, v24)) (τ := σ) dX7_statement_159 ml_X7_45 mv_X7_isWord (T := TX7) (ci := 6) rfl sp28 (by decide) (by decide) rfl ⟨Nat.le_of_ble_eq_true rfl, Nat.le_of_ble_eq_true rfl⟩ (Nat.le_of_ble_eq_true rfl) (c_X7_isWord hS7 hc25) ?_
                refine ev_if_eq (tgt := 171) dX7_statement_162 rfl h (fun cb h => ?_) (fun cb h => ?_)
                · refine ev_aload_n dX7_statement_171 rfl (by decide) ?_
                  obtain ⟨v26, hc27, h⟩ := bind_of h
                  refine ev_invV_v (k := (28 : Int)) (av := []) (st := []) (v := (0, v26.1)) (τ := v26.2) dX7_statement_172 ml_X7_87 mv_X7_faultHere (T := TX7) (ci := 6) rfl sp28 (by decide) (by decide) rfl ⟨Nat.le_of_ble_eq_true rfl, Nat.le_of_ble_eq_true rfl⟩ (Nat.le_of_ble_eq_true rfl) (c_X7_faultHere hc27) ?_
                  obtain ⟨hz, h⟩ := chk_of h
                  obtain rfl := Option.some.inj h
                  exact ev_zret dX7_statement_175 rfl (chk_pos hz)
                refine ev_aload_n dX7_statement_165 rfl (by decide) ?_
                refine ev_aload_n dX7_statement_166 rfl (by decide) ?_
                obtain ⟨v28, hc29, h⟩ := bind_of h
                refine ev_invV_v (k := (28 : Int)) (av := [(2, (10 : Int))]) (st := []) (v := (0, v28.1)) (τ := v28.2) dX7_statement_167 ml_X7_84 mv_X7_readTurn (T := TX7) (ci := 6) rfl sp28 (by decide) (by decide) rfl ⟨Nat.le_of_ble_eq_true rfl, Nat.le_of_ble_eq_true rfl⟩ (Nat.le_of_ble_eq_true rfl) (c_X7_readTurn hc29) ?_
                obtain ⟨hz, h⟩ := chk_of h
                obtain rfl := Option.some.inj h
                exact ev_zret dX7_statement_170 rfl (chk_pos hz)
              refine ev_aload_n dX7_statement_150 rfl (by decide) ?_
              refine ev_aload_n dX7_statement_151 rfl (by decide) ?_
              obtain ⟨v30, hc31, h⟩ := bind_of h
              refine ev_invV_v (k := (28 : Int)) (av := [(2, (10 : Int))]) (st := []) (v := (0, v30.1)) (τ := v30.2) dX7_statement_152 ml_X7_79 mv_X7_readHours (T := TX7) (ci := 6) rfl sp28 (by decide) (by decide) rfl ⟨Nat.le_of_ble_eq_true rfl, Nat.le_of_ble_eq_true rfl⟩ (Nat.le_of_ble_eq_true rfl) (c_X7_readHours hc31) ?_
              obtain ⟨hz, h⟩ := chk_of h
              obtain rfl := Option.some.inj h
              exact ev_zret dX7_statement_155 rfl (chk_pos hz)
            refine ev_aload_n dX7_statement_135 rfl (by decide) ?_
            refine ev_aload_n dX7_statement_136 rfl (by decide) ?_
            obtain ⟨v32, hc33, h⟩ := bind_of h
            refine ev_invV_v (k := (28 : Int)) (av := [(2, (10 : Int))]) (st := []) (v := (0, v32.1)) (τ := v32.2) dX7_statement_137 ml_X7_74 mv_X7_readRoom (T := TX7) (ci := 6) rfl sp28 (by decide) (by decide) rfl ⟨Nat.le_of_ble_eq_true rfl, Nat.le_of_ble_eq_true rfl⟩ (Nat.le_of_ble_eq_true rfl) (c_X7_readRoom hc33) ?_
            obtain ⟨hz, h⟩ := chk_of h
            obtain rfl := Option.some.inj h
            exact ev_zret dX7_statement_140 rfl (chk_pos hz)
          refine ev_aload_n dX7_statement_120 rfl (by decide) ?_
          refine ev_aload_n dX7_statement_121 rfl (by decide) ?_
          obtain ⟨v34, hc35, h⟩ := bind_of h
          refine ev_invV_v (k := (28 : Int)) (av := [(2, (10 : Int))]) (st := []) (v := (0, v34.1)) (τ := v34.2) dX7_statement_122 ml_X7_69 mv_X7_readNight (T := TX7) (ci := 6) rfl sp28 (by decide) (by decide) rfl ⟨Nat.le_of_ble_eq_true rfl, Nat.le_of_ble_eq_true rfl⟩ (Nat.le_of_ble_eq_true rfl) (c_X7_readNight hc35) ?_
          obtain ⟨hz, h⟩ := chk_of h
          obtain rfl := Option.some.inj h
          exact ev_zret dX7_statement_125 rfl (chk_pos hz)
        refine ev_aload_n dX7_statement_105 rfl (by decide) ?_
        refine ev_aload_n dX7_statement_106 rfl (by decide) ?_
        obtain ⟨v36, hc37, h⟩ := bind_of h
        refine ev_invV_v (k := (28 : Int)) (av := [(2, (10 : Int))]) (st := []) (v := (0, v36.1)) (τ := v36.2) dX7_statement_107 ml_X7_64 mv_X7_readDrops (T := TX7) (ci := 6) rfl sp28 (by decide) (by decide) rfl ⟨Nat.le_of_ble_eq_true rfl, Nat.le_of_ble_eq_true rfl⟩ (Nat.le_of_ble_eq_true rfl) (c_X7_readDrops hc37) ?_
        obtain ⟨hz, h⟩ := chk_of h
        obtain rfl := Option.some.inj h
        exact ev_zret dX7_statement_110 rfl (chk_pos hz)
      refine ev_aload_n dX7_statement_90 rfl (by decide) ?_
      refine ev_aload_n dX7_statement_91 rfl (by decide) ?_
      obtain ⟨v38, hc39, h⟩ := bind_of h
      refine ev_invV_v (k := (28 : Int)) (av := [(2, (10 : Int))]) (st := []) (v := (0, v38.1)) (τ := v38.2) dX7_statement_92 ml_X7_59 mv_X7_readTakes (T := TX7) (ci := 6) rfl sp28 (by decide) (by decide) rfl ⟨Nat.le_of_ble_eq_true rfl, Nat.le_of_ble_eq_true rfl⟩ (Nat.le_of_ble_eq_true rfl) (c_X7_readTakes hc39) ?_
      obtain ⟨hz, h⟩ := chk_of h
      obtain rfl := Option.some.inj h
      exact ev_zret dX7_statement_95 rfl (chk_pos hz)
    refine ev_aload_n dX7_statement_75 rfl (by decide) ?_
    refine ev_aload_n dX7_statement_76 rfl (by decide) ?_
    obtain ⟨v40, hc41, h⟩ := bind_of h
    refine ev_invV_v (k := (28 : Int)) (av := [(2, (10 : Int))]) (st := []) (v := (0, v40.1)) (τ := v40.2) dX7_statement_77 ml_X7_54 mv_X7_readCand (T := TX7) (ci := 6) rfl sp28 (by decide) (by decide) rfl ⟨Nat.le_of_ble_eq_true rfl, Nat.le_of_ble_eq_true rfl⟩ (Nat.le_of_ble_eq_true rfl) (c_X7_readCand hc41) ?_
    obtain ⟨hz, h⟩ := chk_of h
    obtain rfl := Option.some.inj h
    exact ev_zret dX7_statement_80 rfl (chk_pos hz)
  refine ev_aload_n dX7_statement_60 rfl (by decide) ?_
  refine ev_aload_n dX7_statement_61 rfl (by decide) ?_
  obtain ⟨v42, hc43, h⟩ := bind_of h
  refine ev_invV_v (k := (28 : Int)) (av := [(2, (10 : Int))]) (st := []) (v := (0, v42.1)) (τ := v42.2) dX7_statement_62 ml_X7_49 mv_X7_readPaper (T := TX7) (ci := 6) rfl sp28 (by decide) (by decide) rfl ⟨Nat.le_of_ble_eq_true rfl, Nat.le_of_ble_eq_true rfl⟩ (Nat.le_of_ble_eq_true rfl) (c_X7_readPaper hc43) ?_
  obtain ⟨hz, h⟩ := chk_of h
  obtain rfl := Option.some.inj h
  exact ev_zret dX7_statement_65 rfl (chk_pos hz)
set_option maxHeartbeats 4000000 in
set_option maxRecDepth 20000 in
theorem b_X7_statement_14  {r : Option V × Mem × Mem} : ∀ a x, f_X7_statement_14B  a = some x → K_X7_statement_14  r x → K_X7_statement_14  r (.inl a) := by
  intro a x h K
  obtain ⟨x2, σ⟩ := a
  have h : f_X7_statement_14C  x2 σ = some x := h
  unfold f_X7_statement_14C at h
  show Ev M_X7_statement 210 210 r 14 210 rho σ [(2, (28 : Int)), (2, (10 : Int)), (0, x2)] []
  refine ev_iload_n dX7_statement_14 rfl ?_
  refine ev_sipush dX7_statement_15 (by decide) (by decide) ?_
  refine ev_icmp_ge (tgt := 51) dX7_statement_18 rfl h (fun cb h => ?_) (fun cb h => ?_)
  · obtain rfl := Option.some.inj h
    exact ev_sub (L2 := [(2, (28 : Int)), (2, (10 : Int)), (9, 0)]) K ⟨.inr rfl, .inr rfl, .inl rfl, trivial⟩
  refine ev_aload_n dX7_statement_21 rfl (by decide) ?_
  refine ev_aload_n dX7_statement_22 rfl (by decide) ?_
  refine ev_getf (j := 2) (t := 0) (x := (σ (28 : Int) 2)) dX7_statement_23 cf_X7 wf_X7_22 sp28 (by decide) (by decide) rfl (by decide) rfl ?_
  obtain ⟨v4, hc5, h⟩ := bind_of h
  refine ev_invV_v (k := (28 : Int)) (av := [(0, (σ (28 : Int) 2))]) (st := []) (v := (0, v4)) (τ := σ) dX7_statement_26 ml_X7_32 mv_X7_byteAt (T := TX7) (ci := 6) rfl sp28 (by decide) (by decide) rfl ⟨Nat.le_of_ble_eq_true rfl, Nat.le_of_ble_eq_true rfl⟩ (Nat.le_of_ble_eq_true rfl) (c_X7_byteAt hc5) ?_
  obtain ⟨v6, hc7, h⟩ := bind_of h
  refine ev_invS_v (av := [(0, v4)]) (st := []) (v := (0, v6)) (τ := σ) dX7_statement_29 ml_X7_39 mt_X7_isLetter rfl ⟨Nat.le_of_ble_eq_true rfl, Nat.le_of_ble_eq_true rfl⟩ (Nat.le_of_ble_eq_true rfl) (c_X7_isLetter hc7) ?_
  refine ev_if_eq (tgt := 51) dX7_statement_32 rfl h (fun cb h => ?_) (fun cb h => ?_)
  · obtain rfl := Option.some.inj h
    exact ev_sub (L2 := [(2, (28 : Int)), (2, (10 : Int)), (9, 0)]) K ⟨.inr rfl, .inr rfl, .inl rfl, trivial⟩
  refine ev_aload_n dX7_statement_35 rfl (by decide) ?_
  refine ev_dup dX7_statement_36 (show (2 : Nat) ≠ 1 by decide) ?_
  refine ev_getf (j := 2) (t := 0) (x := (σ (28 : Int) 2)) dX7_statement_37 cf_X7 wf_X7_22 sp28 (by decide) (by decide) rfl (by decide) rfl ?_
  refine ev_iconst dX7_statement_40 (by decide) ?_
  refine ev_iadd dX7_statement_41 ?_
  refine ev_putfG (j := 2) (t := 0) dX7_statement_42 cf_X7 wf_X7_22 sp28 (by decide) (by decide) rfl (by decide) (by decide) rfl (fun z => absurd z (by decide +kernel)) h (fun σ8 h => ?_)
  refine ev_iincG dX7_statement_45 rfl h rfl (fun v9 h => ?_)
  show Ev _ _ _ _ 48 _ _ _ [(2, (28 : Int)), (2, (10 : Int)), (0, v9)] _
  refine ev_goto (tgt := 14) dX7_statement_48 rfl ?_
  obtain rfl := Option.some.inj h
  exact ev_sub (L2 := [(2, (28 : Int)), (2, (10 : Int)), (0, v9)]) K ⟨.inr rfl, .inr rfl, .inr rfl, trivial⟩
set_option maxHeartbeats 4000000 in
set_option maxRecDepth 20000 in
theorem e_X7_statement_14 (σ : Mem) (x2 : Int)  {q : (Int × Mem)} (h : f_X7_statement_14 σ x2 = some q) : Ev M_X7_statement 210 210 (some (0, q.1), rho, q.2) 14 210 rho σ [(2, (28 : Int)), (2, (10 : Int)), (0, x2)] [] := by
  unfold f_X7_statement_14 at h
  obtain ⟨e, hl, h⟩ := bind_of h
  refine loop_ev (K := K_X7_statement_14  (some (0, q.1), rho, q.2)) (b_X7_statement_14 ) FU (x2, σ) e hl ?_
  show Ev M_X7_statement 210 210 _ 51 210 rho e [(2, (28 : Int)), (2, (10 : Int)), (9, 0)] []
  replace h : f_X7_statement_51 e = some q := h
  exact ev_sub (L2 := [(2, (28 : Int)), (2, (10 : Int)), (9, 0)]) (e_X7_statement_51 e h) ⟨.inr rfl, .inr rfl, .inl rfl, trivial⟩
set_option maxHeartbeats 4000000 in
set_option maxRecDepth 20000 in
theorem c_X7_statement {σ : Mem}  {q : (Int × Mem)} (h : f_X7_statement σ  = some q) : Ms yX7_statement M_X7_statement 210 210 [(2, (28 : Int)), (2, (10 : Int))] rho σ (some (0, q.1), rho, q.2) := by
  refine Ms.of 1 (by decide +kernel) rfl (fun z => absurd z (by decide)) (fun _ _ _ => trivial) rfl rfl ?_
  unfold f_X7_statement at h
  show Ev M_X7_statement 210 210 _ 0 210 rho σ [(2, (28 : Int)), (2, (10 : Int)), (9, 0)] []
  refine ev_aload_n dX7_statement_0 rfl (by decide) ?_
  obtain ⟨σ1, hc2, h⟩ := bind_of h
  refine ev_invV_n (k := (28 : Int)) (av := []) (st := []) (τ := σ1) dX7_statement_1 ml_X7_29 mv_X7_skipBlanks (T := TX7) (ci := 6) rfl sp28 (by decide) (by decide) rfl ⟨Nat.le_of_ble_eq_true rfl, Nat.le_of_ble_eq_true rfl⟩ (Nat.le_of_ble_eq_true rfl) (c_X7_skipBlanks hc2) ?_
  refine ev_aload_n dX7_statement_4 rfl (by decide) ?_
  refine ev_aload_n dX7_statement_5 rfl (by decide) ?_
  refine ev_getf (j := 2) (t := 0) (x := (σ1 (28 : Int) 2)) dX7_statement_6 cf_X7 wf_X7_22 sp28 (by decide) (by decide) rfl (by decide) rfl ?_
  refine ev_putfG (j := 3) (t := 0) dX7_statement_9 cf_X7 wf_X7_36 sp28 (by decide) (by decide) rfl (by decide) (by decide) rfl (fun z => absurd z (by decide +kernel)) h (fun σ3 h => ?_)
  refine ev_iconst dX7_statement_12 (by decide) ?_
  refine ev_istore_n dX7_statement_13 rfl (by decide) ?_
  show Ev _ _ _ _ 14 _ _ _ [(2, (28 : Int)), (2, (10 : Int)), (0, (0 : Int))] _
  exact ev_sub (L2 := [(2, (28 : Int)), (2, (10 : Int)), (0, (0 : Int))]) (e_X7_statement_14 σ3 (0 : Int) h) ⟨.inr rfl, .inr rfl, .inr rfl, trivial⟩
